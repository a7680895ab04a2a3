import java.util.ArrayDeque;
import java.util.ArrayList;
import java.util.Arrays;
import java.util.Deque;
import java.util.List;
import java.util.NoSuchElementException;
import java.util.function.IntUnaryOperator;

/**
 * The document once more, as its words go and without care for speed or room: each state is copied whole, each search
 * tries everything. ModelTest holds the class against it.
 */
public final class Plain {
    static final int NONE = -1;
    static final int HIDDEN = -1000000;

    private record Farm(int yards, int grudging) {
    }

    private record Wrong(int who, int whom, int heavy) {
    }

    /** What acts change. */
    private static final class Now {
        Wrong[] places = new Wrong[9];
        int[] truly = new int[6];
        int[] falsely = new int[6];
        int[] forgivenOf = new int[6];
        int forgiven;
        int brown;
        int lime;
        int coins;
        int day;
        List<int[]> log = new ArrayList<>();

        Now copy() {
            Now other = new Now();
            other.places = places.clone();
            other.truly = truly.clone();
            other.falsely = falsely.clone();
            other.forgivenOf = forgivenOf.clone();
            other.forgiven = forgiven;
            other.brown = brown;
            other.lime = lime;
            other.coins = coins;
            other.day = day;
            other.log = new ArrayList<>(log);
            return other;
        }
    }

    private String tape = "";
    private final List<Farm> farms = new ArrayList<>();
    private final List<Wrong> told = new ArrayList<>();
    private final List<String> laws = new ArrayList<>();
    private final List<List<int[]>> springs = new ArrayList<>();
    private final List<int[]> sightings = new ArrayList<>();
    private int toldLime;
    private int holding = NONE;
    private int appleMark = 4;
    private Now now = new Now();
    private Now kept;
    private final Deque<Now> acts = new ArrayDeque<>();

    public int feed(int a, int b, int c, int d, int e) {
        StringBuilder more = new StringBuilder(tape);
        for (int number : new int[] {a, b, c, d, e}) {
            for (int shift = 24; shift >= 0; shift -= 8) {
                char sign = (char) (number >>> shift & 0xff);
                more.append(sign == 0 ? "" : String.valueOf(sign));
            }
        }
        if (more.length() > 240) {
            return NONE;
        }
        tape = more.toString();
        return tape.length();
    }

    public boolean end(int n) {
        boolean can = 0 <= n && n <= tape.length();
        tape = can ? tape.substring(0, n) : tape;
        return can;
    }

    public int fault(int sort) {
        return sort == 0 || sort == 1 || sort == 2 ? PlainTexts.fault(sort, tape) : -2;
    }

    public int text(int sort) {
        if (fault(sort) != NONE || sort == 1 && laws.size() == 4 || sort == 2 && springs.size() == 4) {
            return NONE;
        }
        String text = tape;
        tape = "";
        if (sort == 1) {
            laws.add(text);
            return laws.size() - 1;
        }
        if (sort == 2) {
            springs.add(PlainTexts.steps(text));
            return springs.size() - 1;
        }
        farms.clear();
        told.clear();
        sightings.clear();
        acts.clear();
        kept = null;
        PlainTexts.clauses(text, 'f', "yg", 10, 3).forEach(f -> farms.add(new Farm(f[0], f[1])));
        PlainTexts.clauses(text, 'w', "avk", 0, 1, 3).forEach(w -> told.add(new Wrong(w[0], w[1], w[2])));
        List<int[]> rules = PlainTexts.clauses(text, 's', "lc", 40, 20);
        toldLime = rules.isEmpty() ? 40 : rules.get(0)[0];
        now = first();
        now.coins = rules.isEmpty() ? 20 : rules.get(0)[1];
        return farms.size();
    }

    private Now first() {
        Now state = new Now();
        for (int i = 0; i < told.size(); i++) {
            state.places[i] = told.get(i);
        }
        state.lime = toldLime;
        return state;
    }

    private boolean isFarm(int farm) {
        return 0 <= farm && farm < farms.size();
    }

    private static boolean within(int value, int from, int to) {
        return from <= value && value <= to;
    }

    private boolean noVillage() {
        return farms.isEmpty();
    }

    private int bare(Now state, int farm) {
        return farms.get(farm).yards() - state.truly[farm] - state.falsely[farm];
    }

    private boolean isWhite(Now state, int farm) {
        return bare(state, farm) == 0;
    }

    private int whiteBits(Now state) {
        int bits = 0;
        for (int farm = 0; farm < farms.size(); farm++) {
            bits += isWhite(state, farm) ? 1 << farm : 0;
        }
        return bits;
    }

    private int yards(Now state, Wrong wrong) {
        int grudging = farms.get(wrong.whom()).grudging();
        int bare = bare(state, wrong.whom());
        int worth = 2 * wrong.heavy() + 1 - grudging / 3;
        if (holding != NONE) {
            worth = PlainTexts.worth(laws.get(holding), wrong.heavy(), grudging, state.forgivenOf[wrong.who()], bare,
                state.lime, state.day);
        }
        int[] bounds = {Math.max(0, Math.min(40, worth)), bare, state.lime};
        return Arrays.stream(bounds).min().getAsInt();
    }

    public int farm(int farm, int what) {
        if (!isFarm(farm) || !within(what, 0, 5)) {
            throw new NoSuchElementException();
        }
        return new int[] {farms.get(farm).yards(), farms.get(farm).grudging(), now.truly[farm], now.falsely[farm],
            bare(now, farm), now.forgivenOf[farm]}[what];
    }

    private static Wrong at(Now state, int place) {
        return within(place, 0, 8) ? state.places[place] : null;
    }

    public int wrong(int at, int what) {
        Wrong wrong = at(now, at);
        if (wrong == null || !within(what, 0, 3)) {
            return NONE;
        }
        return new int[] {wrong.who(), wrong.whom(), wrong.heavy(), yards(now, wrong)}[what];
    }

    public boolean law(int law) {
        boolean can = within(law, NONE, laws.size() - 1);
        holding = can ? law : holding;
        return can;
    }

    public boolean apples(int v) {
        boolean can = within(v, 0, 9) && v != appleMark;
        appleMark = can ? v : appleMark;
        return can;
    }

    /** An act on a copy of what is now: if it can be, the copy is what is now. */
    private interface Act {
        int on(Now state);
    }

    private int act(Act act) {
        Now state = now.copy();
        int answer = act.on(state);
        if (answer != NONE) {
            acts.push(now);
            if (acts.size() > 40) {
                acts.removeLast();
            }
            now = state;
        }
        return answer;
    }

    private int forgive(Now state, int place) {
        Wrong wrong = at(state, place);
        if (wrong == null) {
            return NONE;
        }
        int painted = yards(state, wrong);
        state.truly[wrong.whom()] += painted;
        state.lime -= painted;
        state.forgivenOf[wrong.who()]++;
        state.forgiven = Math.min(999, state.forgiven + 1);
        state.places[place] = null;
        return painted;
    }

    private int paint(Now state, int farm, int n) {
        if (!isFarm(farm) || !within(n, 1, 9) || state.lime < n || bare(state, farm) < n) {
            return NONE;
        }
        state.lime -= n;
        return state.falsely[farm] += n;
    }

    private int inspect(Now state, int farm) {
        if (!isFarm(farm) || state.falsely[farm] == 0) {
            return NONE;
        }
        int gone = state.falsely[farm];
        state.falsely[farm] = 0;
        state.coins = Math.max(0, state.coins - gone);
        return gone;
    }

    private int sin(Now state, int one, int other, int heavy) {
        int place = Arrays.asList(state.places).indexOf(null);
        if (!isFarm(one) || !isFarm(other) || one == other || !within(heavy, 1, 9) || place < 0) {
            return NONE;
        }
        state.places[place] = new Wrong(one, other, heavy);
        return place;
    }

    private int day(Now state) {
        int came = 0;
        for (int farm = 0; farm < farms.size(); farm++) {
            int comes = state.falsely[farm] - state.falsely[farm] / 2;
            state.falsely[farm] -= comes;
            came += comes;
            state.truly[farm] -= state.day % 3 == 2 && state.truly[farm] > 0 ? 1 : 0;
        }
        state.brown = Math.min(9999, state.brown + came);
        state.log.add(0, new int[] {whiteBits(state), came, state.lime});
        if (state.log.size() > 60) {
            state.log.remove(60);
        }
        int white = Integer.bitCount(whiteBits(state));
        state.coins = Math.min(999, state.coins + white);
        state.day++;
        return white;
    }

    public int forgive(int at) {
        return act(state -> forgive(state, at));
    }

    public int paint(int farm, int n) {
        return act(state -> paint(state, farm, n));
    }

    public int inspect(int farm) {
        return act(state -> inspect(state, farm));
    }

    public int sin(int one, int other, int heavy) {
        return act(state -> sin(state, one, other, heavy));
    }

    public int buy(int n) {
        if (noVillage() || !within(n, 1, 20) || now.coins < n || now.lime + n > 999) {
            return NONE;
        }
        return act(state -> {
            state.coins -= n;
            return state.lime += n;
        });
    }

    public int give(int n) {
        return noVillage() || !within(n, 1, 50) || now.coins + n > 999 ? NONE : act(state -> state.coins += n);
    }

    public int day() {
        return noVillage() || now.day == 999 ? NONE : act(this::day);
    }

    public int years(int n, long seed) {
        if (noVillage() || !within(n, 1, 30) || now.day + n > 999) {
            return NONE;
        }
        long[] x = {seed};
        IntUnaryOperator draw = j -> {
            x[0] = x[0] * 6364136223846793005L + 1442695040888963407L;
            return (int) (x[0] >>> 33) % j;
        };
        for (int i = 0; i < n; i++) {
            act(state -> {
                if (draw.applyAsInt(10) < appleMark) {
                    int one = draw.applyAsInt(farms.size());
                    int other = draw.applyAsInt(farms.size());
                    sin(state, one, other, draw.applyAsInt(9) + 1);
                }
                forgive(state, draw.applyAsInt(9));
                state.lime = Math.min(999, state.lime + 3);
                return day(state);
            });
        }
        return now.day;
    }

    public int undo() {
        if (acts.isEmpty()) {
            return NONE;
        }
        now = acts.pop();
        return acts.size();
    }

    public int log(int i, int what) {
        return within(i, 0, now.log.size() - 1) && within(what, 0, 2) ? now.log.get(i)[what] : NONE;
    }

    public int step(int spring, int i, int what) {
        boolean there = within(spring, 0, springs.size() - 1) && within(i, 0, springs.get(spring).size() - 1);
        return there && within(what, 0, 2) ? springs.get(spring).get(i)[what] : HIDDEN;
    }

    /** A step: TRUE yards painted by it. */
    private int step(Now state, int[] step) {
        switch (step[0]) {
            case 0:
                return forgive(state, step[1]);
            case 1:
                return Math.min(0, paint(state, step[1], step[2]));
            case 2:
                return Math.min(0, inspect(state, step[1]));
            default:
                return state.day == 999 ? NONE : Math.min(0, day(state));
        }
    }

    public int run(int spring, int what) {
        if (noVillage() || !within(spring, 0, springs.size() - 1) || !within(what, 0, 1)) {
            return HIDDEN;
        }
        Now state = now.copy();
        int done = 0;
        int painted = 0;
        for (int[] step : springs.get(spring)) {
            int yards = step(state, step);
            if (yards == NONE) {
                return what == 0 ? done : painted;
            }
            painted += yards;
            done++;
        }
        return what == 0 ? NONE : painted;
    }

    public int perform(int spring) {
        if (noVillage() || !within(spring, 0, springs.size() - 1)) {
            return NONE;
        }
        int done = 0;
        for (int[] step : springs.get(spring)) {
            if (act(state -> step(state, step)) == NONE) {
                break;
            }
            done++;
        }
        return done;
    }

    private int openBits() {
        return bitsOf(now, wrong -> true);
    }

    private interface Sort {
        boolean has(Wrong wrong);
    }

    private static int bitsOf(Now state, Sort sort) {
        int bits = 0;
        for (int place = 0; place < 9; place++) {
            bits += state.places[place] != null && sort.has(state.places[place]) ? 1 << place : 0;
        }
        return bits;
    }

    /** Yards painted when these are forgiven one behind the other, on a copy that is handed in. */
    private int forgiveAll(Now state, int bits) {
        int painted = 0;
        for (int place = 0; place < 9; place++) {
            painted += (bits >> place & 1) == 1 ? forgive(state, place) : 0;
        }
        return painted;
    }

    private int fewest(int allowed, int white, int what) {
        int best = NONE;
        for (int bits = 0; bits < 512; bits++) {
            if ((bits & allowed) == bits && (best == NONE || Integer.bitCount(bits) < Integer.bitCount(best))) {
                Now state = now.copy();
                forgiveAll(state, bits);
                best = (whiteBits(state) & white) == white ? bits : best;
            }
        }
        return what == 0 || best == NONE ? best : Integer.bitCount(best);
    }

    public int least(int farm, int what) {
        return isFarm(farm) && within(what, 0, 1) ? fewest(score(farm, 1), 1 << farm, what) : NONE;
    }

    public int every(int what) {
        return noVillage() || !within(what, 0, 1) ? NONE : fewest(openBits(), (1 << farms.size()) - 1, what);
    }

    public int richest(int n, int what) {
        if (noVillage() || !within(n, 0, 9) || !within(what, 0, 1)) {
            return NONE;
        }
        int best = 0;
        int most = 0;
        for (int size = 1; size <= n; size++) {
            for (int bits = 0; bits < 512; bits++) {
                if (Integer.bitCount(bits) == size && (bits & openBits()) == bits) {
                    int painted = forgiveAll(now.copy(), bits);
                    best = painted > most ? bits : best;
                    most = Math.max(most, painted);
                }
            }
        }
        return what == 0 ? best : most;
    }

    public int pairs(int what) {
        if (noVillage() || !within(what, 0, 1)) {
            return NONE;
        }
        List<int[]> rows = new ArrayList<>();
        rows.add(new int[] {0, 0, 0});
        for (int farm = 0; farm < farms.size(); farm++) {
            List<int[]> longer = new ArrayList<>();
            for (int[] row : rows) {
                for (int digit = 0; digit <= 9; digit++) {
                    Wrong wrong = digit == 9 ? null : now.places[digit];
                    if (digit == 9) {
                        longer.add(new int[] {row[0] * 10 + 9, row[1], row[2]});
                    } else if (wrong != null && wrong.whom() == farm && (row[2] >> wrong.who() & 1) == 0) {
                        int yards = row[1] + yards(now, wrong);
                        longer.add(new int[] {row[0] * 10 + digit, yards, row[2] | 1 << wrong.who()});
                    }
                }
            }
            rows = longer;
        }
        rows.sort((a, b) -> a[1] != b[1] ? b[1] - a[1] : a[0] - b[0]);
        return rows.get(0)[what];
    }

    public int seen(int wrong, int v, boolean more) {
        if (!within(wrong, 0, told.size() - 1) || !within(v, 0, 40) || sightings.size() == 10) {
            return NONE;
        }
        sightings.add(new int[] {wrong, v, more ? 1 : 0});
        return sightings.size();
    }

    private int yardsAsTold(int wrong, int heavy) {
        return yards(first(), new Wrong(told.get(wrong).who(), told.get(wrong).whom(), heavy));
    }

    private List<Integer> mayWeigh(int wrong) {
        List<Integer> weights = new ArrayList<>();
        for (int heavy = 1; heavy <= 9; heavy++) {
            int yards = yardsAsTold(wrong, heavy);
            if (sightings.stream().allMatch(s -> s[0] != wrong || (s[2] == 1 ? yards >= s[1] : yards < s[1]))) {
                weights.add(heavy);
            }
        }
        return weights;
    }

    public int weights(int wrong, int i) {
        if (!within(wrong, 0, told.size() - 1)) {
            return NONE;
        }
        List<Integer> weights = mayWeigh(wrong);
        return i == NONE ? weights.size() : within(i, 0, weights.size() - 1) ? weights.get(i) : NONE;
    }

    public int ask(int wrong) {
        if (!within(wrong, 0, told.size() - 1) || mayWeigh(wrong).isEmpty()) {
            return NONE;
        }
        List<Integer> weights = mayWeigh(wrong);
        int best = NONE;
        long least = 99;
        for (int v = 40; v >= 0; v--) {
            int mark = v;
            long more = weights.stream().filter(heavy -> yardsAsTold(wrong, heavy) >= mark).count();
            long apart = Math.abs(more - (weights.size() - more));
            best = apart <= least ? v : best;
            least = Math.min(least, apart);
        }
        return best;
    }

    /** The fewest wrongs, one or more, from one farm to another, by all ways of up to six. */
    private int links(int from, int to, int deep) {
        int fewest = 99;
        for (Wrong wrong : now.places) {
            if (wrong != null && wrong.who() == from && deep < 6) {
                fewest = Math.min(fewest, wrong.whom() == to ? 1 : 1 + links(wrong.whom(), to, deep + 1));
            }
        }
        return fewest;
    }

    public int ring() {
        int fewest = 99;
        for (int farm = 0; farm < farms.size(); farm++) {
            fewest = Math.min(fewest, links(farm, farm, 0));
        }
        return fewest >= 99 ? NONE : fewest;
    }

    public int chain(int from, int to) {
        if (!isFarm(from) || !isFarm(to)) {
            return NONE;
        }
        int fewest = from == to ? 0 : links(from, to, 0);
        return fewest >= 99 ? NONE : fewest;
    }

    public int score(int farm, int what) {
        if (!isFarm(farm) || !within(what, 0, 1)) {
            return NONE;
        }
        return bitsOf(now, wrong -> farm == (what == 0 ? wrong.who() : wrong.whom()));
    }

    private void choose(Now state, int farm, int other, int choice) {
        if (choice == 1) {
            forgiveAll(state, bitsOf(state, wrong -> wrong.who() == other && wrong.whom() == farm));
        }
        for (int n = 9; choice == 2 && n > 0; n--) {
            if (paint(state, farm, n) != NONE) {
                return;
            }
        }
    }

    private int has(int one, int other, int x, int y, int what) {
        Now state = now.copy();
        choose(state, one, other, x);
        choose(state, other, one, y);
        int farm = what == 0 ? one : other;
        int more = state.truly[farm] + state.falsely[farm] - now.truly[farm] - now.falsely[farm];
        return (what == 0 ? x : y) == 2 ? more - 2 : more;
    }

    public int game(int one, int other, int x, int y, int what) {
        boolean can = isFarm(one) && isFarm(other) && one != other;
        return can && within(x, 0, 2) && within(y, 0, 2) && within(what, 0, 1) ? has(one, other, x, y, what) : HIDDEN;
    }

    public int rests(int one, int other, int i) {
        if (!isFarm(one) || !isFarm(other) || one == other) {
            return NONE;
        }
        List<Integer> rests = new ArrayList<>();
        for (int x = 0; x < 3; x++) {
            for (int y = 0; y < 3; y++) {
                boolean rest = true;
                for (int z = 0; z < 3; z++) {
                    rest &= has(one, other, z, y, 0) <= has(one, other, x, y, 0);
                    rest &= has(one, other, x, z, 1) <= has(one, other, x, y, 1);
                }
                if (rest) {
                    rests.add(10 * x + y);
                }
            }
        }
        return i == NONE ? rests.size() : within(i, 0, rests.size() - 1) ? rests.get(i) : NONE;
    }

    public int odds(int farm, int chance) {
        return isFarm(farm) && within(chance, 0, 100) ? (int) odds(now.copy(), farm, chance, 0, 1000000000L) : NONE;
    }

    private long odds(Now state, int farm, int chance, int place, long parts) {
        if (place == 9) {
            return isWhite(state, farm) ? parts : 0;
        }
        if (state.places[place] == null || state.places[place].whom() != farm) {
            return odds(state, farm, chance, place + 1, parts);
        }
        long some = parts * chance / 100;
        Now forgiving = state.copy();
        forgive(forgiving, place);
        return odds(forgiving, farm, chance, place + 1, some) + odds(state, farm, chance, place + 1, parts - some);
    }

    public int shares(int farm, int c) {
        if (!isFarm(farm) || !within(c, 0, 999)) {
            return NONE;
        }
        int inAll = Arrays.stream(now.truly).sum();
        return inAll == 0 ? 0 : c * now.truly[farm] / inAll;
    }

    public int fades(int farm) {
        if (!isFarm(farm)) {
            return NONE;
        }
        Now state = now.copy();
        for (int days = 0; days <= 120; days++) {
            if (state.truly[farm] == 0 && state.falsely[farm] == 0) {
                return days;
            }
            day(state);
        }
        return NONE;
    }

    private static int lowestOfMost(int size, IntUnaryOperator measure) {
        int best = NONE;
        for (int i = size - 1; i >= 0; i--) {
            best = best == NONE || measure.applyAsInt(i) >= measure.applyAsInt(best) ? i : best;
        }
        return best;
    }

    public int all(int what) {
        int size = farms.size();
        if (noVillage()) {
            return NONE;
        }
        switch (what) {
            case 0: return lowestOfMost(size, farm -> now.truly[farm]);
            case 1: return lowestOfMost(size, farm -> bare(now, farm));
            case 2: return lowestOfMost(size, farm -> farms.get(farm).grudging());
            case 3: return lowestOfMost(size, farm -> farms.get(farm).yards());
            case 4: return lowestOfMost(size, farm -> Integer.bitCount(score(farm, 0)));
            case 5: return lowestOfMost(size, farm -> Integer.bitCount(score(farm, 1)));
            case 6: return openBits() == 0 ? NONE : lowestOfMost(9, place -> Math.max(0, wrong(place, 2)));
            case 7: return whiteBits(now);
            case 8: return bitsOver(now.falsely);
            case 9: return openBits();
            case 10: return Math.max(0, bareInAll() - now.lime);
            case 11: return Arrays.stream(now.truly).sum();
            case 12: return Arrays.stream(now.falsely).sum();
            default: return NONE;
        }
    }

    private int bitsOver(int[] yards) {
        int bits = 0;
        for (int farm = 0; farm < farms.size(); farm++) {
            bits |= yards[farm] > 0 ? 1 << farm : 0;
        }
        return bits;
    }

    private int bareInAll() {
        int yards = 0;
        for (int farm = 0; farm < farms.size(); farm++) {
            yards += bare(now, farm);
        }
        return yards;
    }

    public int image() {
        kept = noVillage() ? null : now.copy();
        return noVillage() ? NONE : now.day;
    }

    public int back() {
        if (kept == null) {
            return NONE;
        }
        now = kept.copy();
        acts.clear();
        return now.day;
    }

    public int count(int what) {
        int[] counts = {farms.size(), told.size(), laws.size(), springs.size(), tape.length(), holding, now.day,
            now.lime, now.coins, now.forgiven, now.brown, appleMark, sightings.size(), now.log.size(), acts.size()};
        return within(what, 0, 14) ? counts[what] : HIDDEN;
    }
}
