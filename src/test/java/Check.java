import java.nio.charset.StandardCharsets;
import java.util.NoSuchElementException;

/** What the tests share: comparing answers, and feeding texts. */
final class Check {
    static final int NONE = FenceYards.NONE;
    static final int HIDDEN = FenceYards.HIDDEN;

    private static int wrong = 0;

    private Check() {
    }

    static void due(String call, long got, long want) {
        if (got != want) {
            wrong++;
            System.out.println(call + " answered " + got + ", due is " + want);
        }
    }

    static void due(String call, boolean got, boolean want) {
        due(call, got ? 1 : 0, want ? 1 : 0);
    }

    /** Answers against what is due, for calls whose last argument rises from 0. */
    static void dueRow(String call, int[] got, int... want) {
        due(call + " length", got.length, want.length);
        for (int i = 0; i < Math.min(got.length, want.length); i++) {
            due(call + " [" + i + "]", got[i], want[i]);
        }
    }

    static void dueNoFarm(FenceYards yards, int farm, int what) {
        boolean thrown = false;
        try {
            yards.farm(farm, what);
        } catch (NoSuchElementException e) {
            thrown = true;
        }
        due("farm(" + farm + ", " + what + ") throws", thrown, true);
    }

    /** Ends the test: exit code 1 if an answer was wrong. */
    static void finish() {
        System.out.println(wrong == 0 ? "all answers are as due" : wrong + " answers are not as due");
        if (wrong != 0) {
            System.exit(1);
        }
    }

    /** The tape becomes this text: how many bytes it has. */
    static int tape(FenceYards yards, String text) {
        yards.end(0);
        byte[] bytes = text.getBytes(StandardCharsets.ISO_8859_1);
        int length = 0;
        for (int from = 0; from < bytes.length; from += 20) {
            length = yards.feed(number(bytes, from), number(bytes, from + 4), number(bytes, from + 8),
                number(bytes, from + 12), number(bytes, from + 16));
        }
        return length;
    }

    private static int number(byte[] bytes, int from) {
        int number = 0;
        for (int i = from; i < from + 4; i++) {
            number = number << 8 | (i < bytes.length ? bytes[i] & 255 : 0);
        }
        return number;
    }

    static int tell(FenceYards yards, int sort, String text) {
        tape(yards, text);
        return yards.text(sort);
    }

    static FenceYards village(String text) {
        FenceYards yards = new FenceYards();
        if (tell(yards, 0, text) == NONE) {
            due("village " + text, NONE, 1);
        }
        return yards;
    }

    /** Tells a law and lets it hold. */
    static void rule(FenceYards yards, String text) {
        int law = tell(yards, 1, text);
        due("law " + text + " told", law != NONE, true);
        due("law " + text + " holds", yards.law(law), true);
    }

    static int faultOf(int sort, String text) {
        FenceYards yards = new FenceYards();
        tape(yards, text);
        return yards.fault(sort);
    }

    static void dueFault(int sort, String text, int want) {
        due("fault(" + sort + ") of \"" + text + "\"", faultOf(sort, text), want);
    }
}
