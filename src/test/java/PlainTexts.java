import java.util.ArrayList;
import java.util.LinkedHashSet;
import java.util.List;
import java.util.Map;
import java.util.Set;

/**
 * Where texts go wrong and what laws are worth, straight from the document's words: laws and springs by trying every
 * way on at once, a law's worth by cutting its text at the signs that bind least.
 */
final class PlainTexts {
    // Capitals are parts, each with its ways to go on; other signs stand for themselves. ~ ends what a ! is before.
    private static final Map<Character, String[]> LAW = Map.ofEntries(
        part('L', "y:BR"), part('R', "", ";y:BR"), part('B', "S", "C?S"),
        part('C', "TD"), part('D', "", "|TD"), part('T', "UV"), part('V', "", "&UV"),
        part('U', "!U~", "(C)", "SQS"), part('Q', "=", "<", ">"),
        part('S', "MP"), part('P', "", "+MP", "-MP"), part('M', "AN"), part('N', "", "*AN", "/AN"),
        part('A', "k", "g", "n", "b", "l", "d", "[S]", "#W"), part('W', "", "#X"), part('X', "", "#Y"),
        part('Y', "", "#"));
    private static final Map<Character, String[]> SPRING = Map.ofEntries(
        part('L', "SR"), part('R', "", ";SR"), part('S', "f#", "p##", "i#", "n"));
    private static final String ITEMS = "lcygavk";
    private static final int[] LEAST = {0, 0, 1, 0, 0, 0, 1};
    private static final int[] MOST = {99, 99, 40, 9, 5, 5, 9};

    private PlainTexts() {
    }

    private static Map.Entry<Character, String[]> part(char name, String... ways) {
        return Map.entry(name, ways);
    }

    static int fault(int sort, String text) {
        if (sort == 0) {
            return villageFault(text);
        }
        return sort == 1 ? ways(text, LAW) : ways(text, SPRING);
    }

    /** Each way is what still has to come; the fault is where no way is left. */
    private static int ways(String text, Map<Character, String[]> grammar) {
        Set<String> ways = Set.of("L");
        int steps = 1;
        boolean within = false;
        for (int at = 0; at < text.length(); at++) {
            char sign = text.charAt(at);
            if (sign == ' ') {
                within = false;
                continue;
            }
            steps += grammar == SPRING && sign == ';' ? 1 : 0;
            Set<String> next = new LinkedHashSet<>();
            for (String way : ways) {
                follow(way, sign, within || grammar == SPRING, grammar, next);
            }
            if (next.isEmpty() || steps > 16) {
                return at;
            }
            ways = next;
            within = true;
        }
        for (String way : ways) {
            if (mayEnd(way, grammar)) {
                return Plain.NONE;
            }
        }
        return text.length();
    }

    /** The ways behind a sign. W, X, Y are further digits of a number, which no blank may come before. */
    private static void follow(String way, char sign, boolean within, Map<Character, String[]> grammar,
            Set<String> next) {
        if (way.isEmpty()) {
            return;
        }
        char first = way.charAt(0);
        String rest = way.substring(1);
        if (first == '~') {
            follow(rest, sign, within, grammar, next);
        } else if (grammar.containsKey(first)) {
            for (String begin : grammar.get(first)) {
                boolean cut = "WXY".indexOf(first) >= 0 && !within && !begin.isEmpty();
                if (!cut) {
                    follow(begin + rest, sign, within, grammar, next);
                }
            }
        } else if ((first == sign || first == '#' && Character.isDigit(sign)) && depth(rest) <= 6) {
            next.add(rest);
        }
    }

    /** How many of ( [ ! are open: each has left what ends it. */
    private static long depth(String way) {
        return way.chars().filter(sign -> sign == ')' || sign == ']' || sign == '~').count();
    }

    private static boolean mayEnd(String way, Map<Character, String[]> grammar) {
        for (char sign : way.toCharArray()) {
            String[] begins = grammar.getOrDefault(sign, new String[] {"x"});
            if (sign != '~' && !begins[0].isEmpty()) {
                return false;
            }
        }
        return true;
    }

    private static int skip(String text, int from) {
        int at = from;
        while (at < text.length() && text.charAt(at) == ' ') {
            at++;
        }
        return at;
    }

    private static char signAt(String text, int at) {
        return at < text.length() ? text.charAt(at) : 0;
    }

    private static int villageFault(String text) {
        int[] told = new int[3];
        int at = -1;
        do {
            at = skip(text, at + 1);
            int clause = "sfw".indexOf(signAt(text, at));
            if (clause < 0 || told[clause] == new int[] {1, 6, 9}[clause]) {
                return at;
            }
            told[clause]++;
            String letters = new String[] {"lc", "yg", "avk"}[clause];
            at = skip(text, at + 1);
            while (letters.indexOf(signAt(text, at)) >= 0) {
                char letter = text.charAt(at);
                letters = letters.replace(letter, '.');
                int from = skip(text, at + 1);
                int to = from;
                while (Character.isDigit(signAt(text, to))) {
                    to++;
                }
                if (to == from || to - from > 2) {
                    return to == from ? from : from + 2;
                }
                int value = Integer.parseInt(text.substring(from, to));
                if (value < LEAST[ITEMS.indexOf(letter)] || value > MOST[ITEMS.indexOf(letter)]) {
                    return to - 1;
                }
                at = skip(text, to);
            }
        } while (signAt(text, at) == ';');
        if (at < text.length()) {
            return at;
        }
        boolean whole = told[1] > 0;
        for (int[] wrong : clauses(text, 'w', "avk", 0, 1, 3)) {
            whole &= wrong[0] < told[1] && wrong[1] < told[1] && wrong[0] != wrong[1];
        }
        return whole ? Plain.NONE : text.length();
    }

    /** Of each clause of this kind what its letters tell, or what stands without. */
    static List<int[]> clauses(String text, char kind, String letters, int... without) {
        List<int[]> all = new ArrayList<>();
        for (String clause : text.replace(" ", "").split(";")) {
            if (clause.charAt(0) == kind) {
                int[] items = without.clone();
                for (String item : clause.substring(1).split("(?=[a-z])")) {
                    if (!item.isEmpty()) {
                        items[letters.indexOf(item.charAt(0))] = Integer.parseInt(item.substring(1));
                    }
                }
                all.add(items);
            }
        }
        return all;
    }

    /** Of each step of a spring: what, its digits. */
    static List<int[]> steps(String text) {
        List<int[]> all = new ArrayList<>();
        for (String step : text.replace(" ", "").split(";")) {
            int first = step.length() > 1 ? step.charAt(1) - '0' : Plain.NONE;
            int second = step.length() > 2 ? step.charAt(2) - '0' : Plain.NONE;
            all.add(new int[] {"fpin".indexOf(step.charAt(0)), first, second});
        }
        return all;
    }

    /** WORTH of a law for letters k g n b l d. */
    static int worth(String law, int... letters) {
        for (String clause : law.replace(" ", "").split(";")) {
            String said = clause.substring(2);
            int mark = said.indexOf('?');
            if (mark < 0 || holds(said.substring(0, mark), letters)) {
                return sum(said.substring(mark + 1), letters);
            }
        }
        return 0;
    }

    /** The last of these signs that stands in no bracket; none: NONE. */
    private static int cut(String text, String signs) {
        int depth = 0;
        for (int at = text.length() - 1; at >= 0; at--) {
            char sign = text.charAt(at);
            depth += ")]".indexOf(sign) >= 0 ? 1 : "([".indexOf(sign) >= 0 ? -1 : 0;
            if (depth == 0 && signs.indexOf(sign) >= 0) {
                return at;
            }
        }
        return Plain.NONE;
    }

    private static boolean holds(String text, int[] letters) {
        for (String signs : new String[] {"|", "&"}) {
            int at = cut(text, signs);
            if (at >= 0) {
                boolean ahead = holds(text.substring(0, at), letters);
                boolean behind = holds(text.substring(at + 1), letters);
                return signs.equals("|") ? ahead || behind : ahead && behind;
            }
        }
        if (text.charAt(0) == '!') {
            return !holds(text.substring(1), letters);
        }
        if (text.charAt(0) == '(') {
            return holds(text.substring(1, text.length() - 1), letters);
        }
        int at = cut(text, "=<>");
        int compared = Integer.compare(sum(text.substring(0, at), letters), sum(text.substring(at + 1), letters));
        return compared == "<=>".indexOf(text.charAt(at)) - 1;
    }

    private static int sum(String text, int[] letters) {
        for (String signs : new String[] {"+-", "*/"}) {
            int at = cut(text, signs);
            if (at >= 0) {
                long ahead = sum(text.substring(0, at), letters);
                long behind = sum(text.substring(at + 1), letters);
                long value = switch (text.charAt(at)) {
                    case '+' -> ahead + behind;
                    case '-' -> ahead - behind;
                    case '*' -> ahead * behind;
                    default -> behind == 0 ? 0 : ahead / behind;
                };
                return (int) Math.max(-1000000, Math.min(1000000, value));
            }
        }
        if (text.charAt(0) == '[') {
            return sum(text.substring(1, text.length() - 1), letters);
        }
        int letter = "kgnbld".indexOf(text.charAt(0));
        return letter >= 0 ? letters[letter] : Integer.parseInt(text);
    }
}
