import java.util.Random;

/**
 * FAULTS of random texts: up to its fault a text can go on, so a shorter one is whole or ends too early; and a longer
 * one keeps the fault. (Where a number out of bounds is followed by another digit, villages have rules of their own.)
 */
public final class FaultsTest {
    private static final String[] SIGNS = {"sfw;;lcygavk0149 x", "y:;k1g[](!&|=<>+*? ", "fpin;;012 "};
    private static final String[] WORDS = {"f;|fy3|w;|wa1v0|k2|g9| |sl40|c2|;f|s;",
        "y:|y:k|>1|?2|;|[k|]|(|)|!|&|+1|n|l=2",
        "f1|;|n|n;|p12|p3 4|i0;| "};

    public static void main(String[] args) {
        for (int seed = 0; seed < 20000; seed++) {
            Random random = new Random(seed);
            int sort = random.nextInt(3);
            check(sort, random.nextBoolean() ? signs(random, sort) : words(random, sort));
        }
        Check.finish();
    }

    private static String signs(Random random, int sort) {
        StringBuilder text = new StringBuilder();
        for (int i = random.nextInt(12); i > 0; i--) {
            text.append(SIGNS[sort].charAt(random.nextInt(SIGNS[sort].length())));
        }
        return text.toString();
    }

    private static String words(Random random, int sort) {
        String[] words = WORDS[sort].split("\\|");
        StringBuilder text = new StringBuilder();
        for (int i = random.nextInt(14); i > 0; i--) {
            text.append(words[random.nextInt(words.length)]);
        }
        return text.toString();
    }

    private static void check(int sort, String text) {
        int fault = Check.faultOf(sort, text);
        boolean numbers = sort == 0 && text.matches("(?s).*[0-9][0-9].*");
        for (int length = 0; length < text.length() && !numbers; length++) {
            int shorter = Check.faultOf(sort, text.substring(0, length));
            if (fault == Check.NONE || length <= fault) {
                boolean goesOn = shorter == Check.NONE || shorter == length;
                Check.due("sort " + sort + " \"" + text + "\" goes on at " + length, goesOn, true);
            } else {
                Check.due("sort " + sort + " \"" + text + "\" cut at " + length, shorter, fault);
            }
        }
        if (sort == 2) {
            String step = " *(f *\\d|i *\\d|n|p *\\d *\\d) *";
            boolean spring = text.matches(step + "(;" + step + "){0,15}");
            Check.due("spring \"" + text + "\"", fault == Check.NONE, spring);
        }
    }
}
