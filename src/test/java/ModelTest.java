import java.lang.reflect.Method;
import java.lang.reflect.Modifier;
import java.util.Arrays;
import java.util.List;
import java.util.Random;
import java.util.stream.Stream;

/**
 * Random runs of at most 512 calls against Plain, which is the document once more as its words go: every call answers
 * alike. Two arguments take another number of runs and the seed of the first: java ModelTest 20000 1000.
 */
public final class ModelTest {
    // Each call with how often it comes and the most that each argument is, from 0 on (or what it names).
    private static final List<String[]> CALLS = """
        end 1 tape
        fault 1 2
        text 1 2
        farm 12 farm 5
        wrong 14 8 3
        law 3 3
        apples 2 9
        forgive 9 open
        paint 14 farm 9
        inspect 5 farm
        sin 36 farm farm 9
        buy 8 20
        give 6 50
        day 10
        years 5 years seed
        undo 7
        log 16 logged 2
        step 6 spring 6 2
        run 8 spring 1
        perform 7 spring
        least 6 farm 1
        every 4 1
        richest 6 9 1
        pairs 6 1
        seen 9 told 40 yes
        weights 8 told 9
        ask 5 told
        ring 4
        chain 8 farm farm
        score 4 farm 1
        game 10 farm farm 2 2 1
        rests 8 farm farm 3
        odds 6 farm 100
        shares 4 farm 999
        fades 6 farm
        all 14 12
        image 3
        back 3
        count 20 14
        """.lines().map(line -> line.split(" ")).toList();
    private static final int WEIGHT = CALLS.stream().mapToInt(row -> Integer.parseInt(row[1])).sum();
    private static final int[] ODD = {-1, -1, -1, -2, Integer.MIN_VALUE, Integer.MAX_VALUE, 10, 100, 1000};

    private final long seed;
    private final Random random;
    private final RandomTexts texts;
    private final FenceYards x = new FenceYards();
    private final Plain plain = new Plain();
    private int calls = 0;

    private ModelTest(long seed) {
        this.seed = seed;
        this.random = new Random(seed);
        this.texts = new RandomTexts(random);
    }

    public static void main(String[] args) {
        int runs = args.length > 0 ? Integer.parseInt(args[0]) : 300;
        long from = args.length > 1 ? Long.parseLong(args[1]) : 0;
        everyCallIsTried();
        for (long seed = from; seed < from + runs; seed++) {
            new ModelTest(seed).run();
        }
        Check.finish();
    }

    private static void everyCallIsTried() {
        List<String> tried = Stream.concat(Stream.of("feed"), CALLS.stream().map(row -> row[0])).sorted().toList();
        List<String> face = Arrays.stream(FenceYards.class.getDeclaredMethods())
            .filter(method -> Modifier.isPublic(method.getModifiers())).map(Method::getName).sorted().toList();
        Check.due("calls tried " + tried + " of " + face, tried.equals(face), true);
    }

    /** A telling takes 18 calls at most. Some runs begin late, some rich. */
    private void run() {
        tell(0);
        int kind = random.nextInt(8);
        for (int i = 0; kind == 0 && i < 33; i++) {
            call("apples", 9 - i % 2);
            call("years", 30, random.nextLong());
        }
        for (int i = 0; kind == 1 && i < 75; i++) {
            call("give", 50);
            call("buy", 20);
        }
        while (calls <= 512 - 18) {
            if (random.nextInt(calls < 40 ? 4 : 50) == 0) {
                tell(plain.count(0) == 0 && random.nextInt(4) > 0 ? 0 : random.nextInt(3));
            } else {
                callAny();
            }
        }
    }

    private void tell(int sort) {
        call("end", 0);
        String text = texts.of(sort);
        for (int from = 0; from < text.length(); from += 20) {
            feed(text.substring(from, Math.min(text.length(), from + 20)));
        }
        call("fault", sort);
        if (random.nextInt(5) == 0) {
            call("fault", random.nextInt(3));
        }
        call("text", sort);
        if (sort == 1) {
            call("law", random.nextInt(4));
        }
    }

    /** The last part of a text leaves room, so that bytes of 0 may stand between its own. */
    private void feed(String part) {
        int[] bytes = new int[20];
        int spare = 20 - part.length();
        int given = 0;
        for (int i = 0; i < 20 && given < part.length(); i++) {
            if (spare > 0 && random.nextInt(4) == 0) {
                spare--;
            } else {
                bytes[i] = part.charAt(given);
                given++;
            }
        }
        Object[] numbers = new Object[5];
        for (int i = 0; i < 5; i++) {
            numbers[i] = bytes[4 * i] << 24 | bytes[4 * i + 1] << 16 | bytes[4 * i + 2] << 8 | bytes[4 * i + 3];
        }
        call("feed", numbers);
    }

    private void callAny() {
        int drawn = random.nextInt(WEIGHT);
        int at = 0;
        while (drawn >= Integer.parseInt(CALLS.get(at)[1])) {
            drawn -= Integer.parseInt(CALLS.get(at)[1]);
            at++;
        }
        String[] row = CALLS.get(at);
        Object[] arguments = new Object[row.length - 2];
        for (int i = 0; i < arguments.length; i++) {
            arguments[i] = argument(row[i + 2]);
        }
        call(row[0], arguments);
    }

    private Object argument(String kind) {
        switch (kind) {
            case "seed": return random.nextInt(4) == 0 ? random.nextInt(3) - 1L : random.nextLong();
            case "yes": return random.nextBoolean();
            case "farm": return number(plain.count(0));
            case "told": return number(plain.count(1));
            case "tape": return number(plain.count(4) + 1);
            case "open": return openOr(number(9));
            case "spring": return number(plain.count(3));
            case "logged": return number(plain.count(13));
            case "years": return yearsOr(number(31));
            default: return number(Integer.parseInt(kind) + 1);
        }
    }

    /** Below a size as a rule; else the size itself, or something odd. */
    private int number(int size) {
        int sort = random.nextInt(25);
        if (sort == 0) {
            return ODD[random.nextInt(ODD.length)];
        }
        return size < 1 || sort == 1 ? size : random.nextInt(size);
    }

    /** The first open wrong more often than others, so that forgiving is rarely refused. */
    private int openOr(int place) {
        boolean any = plain.all(9) > 0 && random.nextBoolean();
        return any ? Integer.numberOfTrailingZeros(plain.all(9)) : place;
    }

    /** Late in the village's days, often just as many as are left, or one more. */
    private int yearsOr(int n) {
        int left = 999 - plain.count(6);
        return left <= 30 && random.nextBoolean() ? left + random.nextInt(2) : n;
    }

    private void call(String name, Object... arguments) {
        calls++;
        String got = Called.answer(x, name, arguments);
        String want = Called.answer(plain, name, arguments);
        if (!got.equals(want)) {
            String call = "seed " + seed + " call " + calls + " " + name + Arrays.toString(arguments);
            Check.due(call + " (" + got + " for " + want + ")", false, true);
        }
    }
}
