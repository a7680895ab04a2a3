import java.util.Arrays;
import java.util.NoSuchElementException;

/** Farms whose fences are whitened by who is forgiven; the document's promises say what each call answers. */
public final class FenceYards {
    public static final int NONE = -1;
    public static final int HIDDEN = -1000000;

    private static final int FARMS = 6;
    private static final int PLACES = 9;
    private static final int HEAVIEST = 9;
    private static final int KEPT = 4;
    private static final int LAST_DAY = 999;
    private static final int MOST_STOCK = 999;
    private static final int MOST_BROWN = 9999;
    private static final int MOST_YARDS = 40;
    private static final int MOST_DAUBED = 9;
    private static final int FADING = 120;
    private static final int NO_SORT = -2;
    private static final long DRAW_TIMES = 6364136223846793005L;
    private static final long DRAW_PLUS = 1442695040888963407L;

    private final Tape tape = new Tape();
    private final Setting setting = new Setting();
    private final State now = new State(setting);
    private final State apart = new State(setting);
    private final History history = new History();
    private final Search search = new Search(apart);
    private final Sightings sightings = new Sightings(apart);
    private final Gamble gamble = new Gamble(now, apart);
    private final LawReader lawReader = new LawReader();
    private final Law[] laws = new Law[KEPT];
    private final Spring[] springs = new Spring[KEPT];
    private Village villageDraft = new Village();
    private Spring springDraft = new Spring();
    private int lawCount = 0;
    private int springCount = 0;
    private int lawHeld = NONE;
    private int appleMark = 4;
    private long drawn = 0;

    public FenceYards() {
    }

    public int feed(int a, int b, int c, int d, int e) {
        int more = Tape.bytesIn(a) + Tape.bytesIn(b) + Tape.bytesIn(c) + Tape.bytesIn(d) + Tape.bytesIn(e);
        if (tape.length + more > Tape.MOST) {
            return NONE;
        }
        tape.append(a);
        tape.append(b);
        tape.append(c);
        tape.append(d);
        tape.append(e);
        return tape.length;
    }

    public boolean end(int n) {
        if (n < 0 || n > tape.length) {
            return false;
        }
        tape.length = n;
        return true;
    }

    public int fault(int sort) {
        if (sort < 0 || sort > 2) {
            return NO_SORT;
        }
        return reads(sort) ? NONE : tape.at;
    }

    public int text(int sort) {
        if (!hasRoom(sort) || !reads(sort)) {
            return NONE;
        }
        tape.length = 0;
        if (sort == 0) {
            return settle();
        }
        return sort == 1 ? keepLaw() : keepSpring();
    }

    public int farm(int farm, int what) throws NoSuchElementException {
        if (!isFarm(farm) || what < 0 || what > 5) {
            throw new NoSuchElementException();
        }
        switch (what) {
            case 0: return setting.village.yards[farm];
            case 1: return setting.village.grudges[farm];
            case 2: return now.truly[farm];
            case 3: return now.falsely[farm];
            case 4: return now.bare(farm);
            default: return now.pardons[farm];
        }
    }

    public int wrong(int at, int what) {
        if (!now.isOpen(at)) {
            return NONE;
        }
        switch (what) {
            case 0: return now.who[at];
            case 1: return now.whom[at];
            case 2: return now.heavy[at];
            case 3: return now.yardsOf(at);
            default: return NONE;
        }
    }

    public boolean law(int law) {
        if (law < NONE || law >= lawCount) {
            return false;
        }
        lawHeld = law;
        setting.law = law == NONE ? null : laws[law];
        return true;
    }

    public boolean apples(int v) {
        if (v < 0 || v > 9 || v == appleMark) {
            return false;
        }
        appleMark = v;
        return true;
    }

    public int forgive(int at) {
        history.prepare(now);
        return acted(now.pardon(at));
    }

    public int paint(int farm, int n) {
        history.prepare(now);
        return acted(now.daub(farm, n));
    }

    public int inspect(int farm) {
        history.prepare(now);
        return acted(now.thumb(farm));
    }

    public int sin(int one, int other, int heavy) {
        history.prepare(now);
        return acted(now.offend(one, other, heavy));
    }

    public int buy(int n) {
        if (!hasVillage() || n < 1 || n > 20 || n > now.coins || now.lime + n > MOST_STOCK) {
            return NONE;
        }
        history.prepare(now);
        now.lime += n;
        now.coins -= n;
        return acted(now.lime);
    }

    public int give(int n) {
        if (!hasVillage() || n < 1 || n > 50 || now.coins + n > MOST_STOCK) {
            return NONE;
        }
        history.prepare(now);
        now.coins += n;
        return acted(now.coins);
    }

    public int day() {
        if (!hasVillage() || now.day >= LAST_DAY) {
            return NONE;
        }
        history.prepare(now);
        now.wear();
        history.write(now);
        return acted(Integer.bitCount(now.whites()));
    }

    public int years(int n, long seed) {
        if (!hasVillage() || n < 1 || n > 30 || now.day + n > LAST_DAY) {
            return NONE;
        }
        drawn = seed;
        for (int i = 0; i < n; i++) {
            history.prepare(now);
            quarrel();
            now.pardon(draw(PLACES));
            now.lime = Math.min(now.lime + 3, MOST_STOCK);
            now.wear();
            history.write(now);
            history.close();
        }
        return now.day;
    }

    public int undo() {
        return history.takeBack(now) ? history.size : NONE;
    }

    public int log(int i, int what) {
        if (i < 0 || i >= History.logLength(now) || what < 0 || what > 2) {
            return NONE;
        }
        return history.logged(now.day - 1 - i, what);
    }

    public int step(int spring, int i, int what) {
        if (!isSpring(spring) || i < 0 || i >= springs[spring].size) {
            return HIDDEN;
        }
        switch (what) {
            case 0: return springs[spring].kinds[i];
            case 1: return springs[spring].firsts[i];
            case 2: return springs[spring].seconds[i];
            default: return HIDDEN;
        }
    }

    public int run(int spring, int what) {
        if (!hasVillage() || !isSpring(spring) || what < 0 || what > 1) {
            return HIDDEN;
        }
        apart.copyFrom(now);
        Spring told = springs[spring];
        int painted = 0;
        for (int i = 0; i < told.size; i++) {
            int yards = apart.take(told, i);
            if (yards == NONE) {
                return what == 0 ? i : painted;
            }
            painted += yards;
        }
        return what == 0 ? NONE : painted;
    }

    public int perform(int spring) {
        if (!hasVillage() || !isSpring(spring)) {
            return NONE;
        }
        Spring told = springs[spring];
        for (int i = 0; i < told.size; i++) {
            history.prepare(now);
            if (now.take(told, i) == NONE) {
                return i;
            }
            if (told.kinds[i] == Spring.DAY) {
                history.write(now);
            }
            history.close();
        }
        return told.size;
    }

    public int least(int farm, int what) {
        if (!isFarm(farm) || what < 0 || what > 1) {
            return NONE;
        }
        apart.copyFrom(now);
        search.whiten(apart.doneTo(farm), 1 << farm);
        return what == 0 ? search.bits : search.size;
    }

    public int every(int what) {
        if (!hasVillage() || what < 0 || what > 1) {
            return NONE;
        }
        apart.copyFrom(now);
        search.whiten(apart.opens(), (1 << setting.village.farms) - 1);
        return what == 0 ? search.bits : search.size;
    }

    public int richest(int n, int what) {
        if (!hasVillage() || n < 0 || n > PLACES || what < 0 || what > 1) {
            return NONE;
        }
        apart.copyFrom(now);
        search.enrich(n);
        return what == 0 ? search.bits : search.yards;
    }

    public int pairs(int what) {
        if (!hasVillage() || what < 0 || what > 1) {
            return NONE;
        }
        apart.copyFrom(now);
        search.pairUp();
        return what == 0 ? search.bits : search.yards;
    }

    public int seen(int told, int v, boolean more) {
        if (!isTold(told) || v < 0 || v > MOST_YARDS || sightings.size >= Sightings.MOST) {
            return NONE;
        }
        sightings.add(told, v, more);
        return sightings.size;
    }

    public int weights(int told, int i) {
        if (!isTold(told)) {
            return NONE;
        }
        int fitting = sightings.fitting(told);
        return i == NONE ? Integer.bitCount(fitting) : bitAt(fitting, i);
    }

    public int ask(int told) {
        return isTold(told) ? sightings.bestMark(told) : NONE;
    }

    public int ring() {
        int fewest = NONE;
        for (int farm = 0; farm < setting.village.farms; farm++) {
            int links = now.links(now.reachedFrom(1 << farm), farm);
            if (links != NONE && (fewest == NONE || links + 1 < fewest)) {
                fewest = links + 1;
            }
        }
        return fewest;
    }

    public int chain(int from, int to) {
        return isFarm(from) && isFarm(to) ? now.links(1 << from, to) : NONE;
    }

    public int score(int farm, int what) {
        if (!isFarm(farm) || what < 0 || what > 1) {
            return NONE;
        }
        return what == 0 ? now.doneBy(farm) : now.doneTo(farm);
    }

    public int game(int one, int other, int x, int y, int what) {
        if (!isFarm(one) || !isFarm(other) || one == other || what < 0 || what > 1) {
            return HIDDEN;
        }
        if (x < 0 || x >= Gamble.CHOICES || y < 0 || y >= Gamble.CHOICES) {
            return HIDDEN;
        }
        gamble.play(one, other, x, y);
        return what == 0 ? gamble.first[x][y] : gamble.second[x][y];
    }

    public int rests(int one, int other, int i) {
        if (!isFarm(one) || !isFarm(other) || one == other) {
            return NONE;
        }
        gamble.findRests(one, other);
        if (i == NONE) {
            return gamble.restCount;
        }
        return i >= 0 && i < gamble.restCount ? gamble.restRow[i] : NONE;
    }

    public int odds(int farm, int chance) {
        if (!isFarm(farm) || chance < 0 || chance > 100) {
            return NONE;
        }
        apart.copyFrom(now);
        return search.whiteOdds(farm, chance);
    }

    public int shares(int farm, int c) {
        if (!isFarm(farm) || c < 0 || c > 999) {
            return NONE;
        }
        int total = sum(now.truly);
        return total == 0 ? 0 : c * now.truly[farm] / total;
    }

    public int fades(int farm) {
        if (!isFarm(farm)) {
            return NONE;
        }
        apart.copyFrom(now);
        for (int days = 0; days <= FADING; days++) {
            if (apart.whiteYards(farm) == 0) {
                return days;
            }
            apart.wear();
        }
        return NONE;
    }

    public int all(int what) {
        if (!hasVillage() || what < 0) {
            return NONE;
        }
        if (what <= 5) {
            return foremost(what);
        }
        switch (what) {
            case 6: return heaviestPlace();
            case 7: return now.whites();
            case 8: return now.falseFarms();
            case 9: return now.opens();
            case 10: return Math.max(now.bareInAll() - now.lime, 0);
            case 11: return sum(now.truly);
            case 12: return sum(now.falsely);
            default: return NONE;
        }
    }

    public int image() {
        if (!hasVillage()) {
            return NONE;
        }
        history.portray(now);
        return now.day;
    }

    public int back() {
        return history.restore(now) ? now.day : NONE;
    }

    public int count(int what) {
        switch (what) {
            case 0: return setting.village.farms;
            case 1: return setting.village.told;
            case 2: return lawCount;
            case 3: return springCount;
            case 4: return tape.length;
            case 5: return lawHeld;
            case 6: return now.day;
            case 7: return now.lime;
            case 8: return now.coins;
            case 9: return now.forgiven;
            case 10: return now.brown;
            case 11: return appleMark;
            case 12: return sightings.size;
            case 13: return History.logLength(now);
            case 14: return history.size;
            default: return HIDDEN;
        }
    }

    private boolean reads(int sort) {
        switch (sort) {
            case 0: return villageDraft.read(tape);
            case 1: return lawReader.read(tape);
            case 2: return springDraft.read(tape);
            default: return false;
        }
    }

    private boolean hasRoom(int sort) {
        switch (sort) {
            case 0: return true;
            case 1: return lawCount < KEPT;
            case 2: return springCount < KEPT;
            default: return false;
        }
    }

    private int settle() {
        Village former = setting.village;
        setting.village = villageDraft;
        villageDraft = former;
        now.begin();
        history.clear();
        sightings.size = 0;
        return setting.village.farms;
    }

    private int keepLaw() {
        laws[lawCount] = new Law(Arrays.copyOf(lawReader.code, lawReader.size));
        lawCount++;
        return lawCount - 1;
    }

    private int keepSpring() {
        springs[springCount] = springDraft;
        springDraft = new Spring();
        springCount++;
        return springCount - 1;
    }

    private boolean hasVillage() {
        return setting.village.farms > 0;
    }

    private boolean isFarm(int farm) {
        return setting.village.isFarm(farm);
    }

    private boolean isTold(int told) {
        return told >= 0 && told < setting.village.told;
    }

    private boolean isSpring(int spring) {
        return spring >= 0 && spring < springCount;
    }

    /** The answer of an act; a refused one leaves nothing to undo. */
    private int acted(int answer) {
        if (answer != NONE) {
            history.close();
        }
        return answer;
    }

    private int draw(int j) {
        drawn = drawn * DRAW_TIMES + DRAW_PLUS;
        return j < 1 ? 0 : (int) ((drawn >>> 33) % j);
    }

    private void quarrel() {
        if (draw(10) >= appleMark) {
            return;
        }
        int one = draw(setting.village.farms);
        int other = draw(setting.village.farms);
        now.offend(one, other, draw(HEAVIEST) + 1);
    }

    private int foremost(int what) {
        int best = 0;
        for (int farm = 1; farm < setting.village.farms; farm++) {
            if (measure(farm, what) > measure(best, what)) {
                best = farm;
            }
        }
        return best;
    }

    private int measure(int farm, int what) {
        switch (what) {
            case 0: return now.truly[farm];
            case 1: return now.bare(farm);
            case 2: return setting.village.grudges[farm];
            case 3: return setting.village.yards[farm];
            case 4: return Integer.bitCount(now.doneBy(farm));
            default: return Integer.bitCount(now.doneTo(farm));
        }
    }

    private int heaviestPlace() {
        int best = NONE;
        for (int place = 0; place < PLACES; place++) {
            if (now.heavy[place] > 0 && (best == NONE || now.heavy[place] > now.heavy[best])) {
                best = place;
            }
        }
        return best;
    }

    private static int sum(int[] row) {
        int sum = 0;
        for (int i = 0; i < row.length; i++) {
            sum += row[i];
        }
        return sum;
    }

    private static int bitAt(int bits, int i) {
        int ahead = 0;
        for (int bit = 0; bit < 31; bit++) {
            if ((bits >> bit & 1) == 1) {
                if (ahead == i) {
                    return bit;
                }
                ahead++;
            }
        }
        return NONE;
    }

    /** The TAPE, and where reading it stands: a reader that fails leaves that at the FAULT. */
    private static final class Tape {
        static final int MOST = 240;
        static final int END = -1;
        private static final int BLANK = 32;

        final int[] bytes = new int[MOST];
        int length = 0;
        int at = 0;

        static int bytesIn(int number) {
            int bytes = 0;
            for (int shift = 24; shift >= 0; shift -= 8) {
                if ((number >>> shift & 255) != 0) {
                    bytes++;
                }
            }
            return bytes;
        }

        void append(int number) {
            for (int shift = 24; shift >= 0; shift -= 8) {
                int sign = number >>> shift & 255;
                if (sign != 0 && length < MOST) {
                    bytes[length] = sign;
                    length++;
                }
            }
        }

        int next() {
            while (at < length && bytes[at] == BLANK) {
                at++;
            }
            return at < length ? bytes[at] : END;
        }

        boolean accept(int sign) {
            if (next() != sign) {
                return false;
            }
            at++;
            return true;
        }

        int digit() {
            int sign = next();
            if (sign < '0' || sign > '9') {
                return NONE;
            }
            at++;
            return sign - '0';
        }

        /** A number of so many digits at most; NONE: there is none, or a digit too many. */
        int number(int digits) {
            next();
            if (!atDigit()) {
                return NONE;
            }
            int value = 0;
            for (int i = 0; i < digits && atDigit(); i++) {
                value = 10 * value + bytes[at] - '0';
                at++;
            }
            return atDigit() ? NONE : value;
        }

        private boolean atDigit() {
            return at < length && bytes[at] >= '0' && bytes[at] <= '9';
        }
    }

    /** A VILLAGE as it was told. */
    private static final class Village {
        private static final String RULE_LETTERS = "lc";
        private static final String FARM_LETTERS = "yg";
        private static final String WRONG_LETTERS = "avk";
        private static final int[] RULE_BOUNDS = {0, 99, 0, 99};
        private static final int[] FARM_BOUNDS = {1, 40, 0, 9};
        private static final int[] WRONG_BOUNDS = {0, 5, 0, 5, 1, 9};

        final int[] yards = new int[FARMS];
        final int[] grudges = new int[FARMS];
        final int[] who = new int[PLACES];
        final int[] whom = new int[PLACES];
        final int[] heavy = new int[PLACES];
        int farms = 0;
        int told = 0;
        int lime = 0;
        int coins = 0;
        private boolean ruled = false;
        private final int[] items = new int[3];

        boolean isFarm(int farm) {
            return farm >= 0 && farm < farms;
        }

        boolean read(Tape tape) {
            tape.at = 0;
            farms = 0;
            told = 0;
            lime = 40;
            coins = 20;
            ruled = false;
            for (int i = 0; i < Tape.MOST; i++) {
                if (!readClause(tape)) {
                    return false;
                }
                if (tape.next() == Tape.END) {
                    return isWhole();
                }
                if (!tape.accept(';')) {
                    return false;
                }
            }
            return false;
        }

        private boolean readClause(Tape tape) {
            switch (tape.next()) {
                case 's': return !ruled && readRules(tape);
                case 'f': return farms < FARMS && readFarm(tape);
                case 'w': return told < PLACES && readWrong(tape);
                default: return false;
            }
        }

        private boolean readRules(Tape tape) {
            ruled = true;
            items[0] = lime;
            items[1] = coins;
            if (!readItems(tape, RULE_LETTERS, RULE_BOUNDS)) {
                return false;
            }
            lime = items[0];
            coins = items[1];
            return true;
        }

        private boolean readFarm(Tape tape) {
            items[0] = 10;
            items[1] = 3;
            if (!readItems(tape, FARM_LETTERS, FARM_BOUNDS)) {
                return false;
            }
            yards[farms] = items[0];
            grudges[farms] = items[1];
            farms++;
            return true;
        }

        private boolean readWrong(Tape tape) {
            items[0] = 0;
            items[1] = 1;
            items[2] = 3;
            if (!readItems(tape, WRONG_LETTERS, WRONG_BOUNDS)) {
                return false;
            }
            who[told] = items[0];
            whom[told] = items[1];
            heavy[told] = items[2];
            told++;
            return true;
        }

        /** Goes past the clause's own letter and its items; what stands behind them is the caller's to judge. */
        private boolean readItems(Tape tape, String letters, int[] bounds) {
            tape.at++;
            int there = 0;
            for (int i = 0; i <= letters.length(); i++) {
                int sign = tape.next();
                int which = sign == Tape.END ? NONE : letters.indexOf((char) sign);
                if (which == NONE) {
                    return true;
                }
                if ((there >> which & 1) == 1) {
                    return false;
                }
                there |= 1 << which;
                tape.at++;
                int value = tape.number(2);
                if (value == NONE) {
                    return false;
                }
                if (value < bounds[2 * which] || value > bounds[2 * which + 1]) {
                    tape.at--;
                    return false;
                }
                items[which] = value;
            }
            return true;
        }

        private boolean isWhole() {
            for (int i = 0; i < told; i++) {
                if (!isFarm(who[i]) || !isFarm(whom[i]) || who[i] == whom[i]) {
                    return false;
                }
            }
            return farms > 0;
        }
    }

    /** A LAW as code for a stack: operands stand ahead of their sign, signs are negative. */
    private static final class Law {
        static final int LETTER = 10000;
        static final int CLAUSE_END = -';';
        static final int IF = -'?';
        static final int NOT = -'!';
        // Six of ( [ ! within one another keep some eighteen numbers waiting at most.
        private static final int STACK = 32;
        private static final int BOUND = 1000000;

        private final int[] code;
        private final int[] stack = new int[STACK];

        Law(int[] code) {
            this.code = code;
        }

        int worth(int[] letters) {
            int top = 0;
            for (int i = 0; i < code.length; i++) {
                int sign = code[i];
                if (sign >= 0) {
                    if (top >= STACK || sign - LETTER >= letters.length) {
                        return 0;
                    }
                    stack[top] = sign < LETTER ? sign : letters[sign - LETTER];
                    top++;
                } else if (top < 1) {
                    return 0;
                } else if (sign == CLAUSE_END) {
                    return stack[top - 1];
                } else if (sign == IF) {
                    top--;
                    i = stack[top] == 0 ? clauseEnd(i) : i;
                } else if (sign == NOT) {
                    stack[top - 1] = 1 - stack[top - 1];
                } else if (top >= 2) {
                    top--;
                    stack[top - 1] = joined(-sign, stack[top - 1], stack[top]);
                }
            }
            return 0;
        }

        private int clauseEnd(int from) {
            int i = from;
            while (i < code.length && code[i] != CLAUSE_END) {
                i++;
            }
            return i;
        }

        private static int joined(int sign, int a, int b) {
            long value;
            switch (sign) {
                case '+': value = (long) a + b; break;
                case '-': value = (long) a - b; break;
                case '*': value = (long) a * b; break;
                case '/': value = b == 0 ? 0 : a / b; break;
                case '=': value = a == b ? 1 : 0; break;
                case '<': value = a < b ? 1 : 0; break;
                case '>': value = a > b ? 1 : 0; break;
                case '&': value = a & b; break;
                case '|': value = a | b; break;
                default: value = 0; break;
            }
            return (int) (value > BOUND ? BOUND : value < -BOUND ? -BOUND : value);
        }
    }

    /** Reads a LAW into its code, a row of parts for each kind of sign that stands between them. */
    private static final class LawReader {
        private static final String LETTERS = "kgnbld";
        private static final int DEEPEST = 6;
        private static final int CONDITION = 0;
        private static final int TRUTH = 1;
        private static final int SUM = 2;
        private static final int TERM = 3;

        // A text gives no more code than it has bytes: each sign gives one number at most, a clause's y and : none,
        // its end one.
        final int[] code = new int[Tape.MOST];
        int size = 0;
        private Tape tape = null;

        boolean read(Tape from) {
            tape = from;
            tape.at = 0;
            size = 0;
            for (int i = 0; i < Tape.MOST; i++) {
                if (!readClause() || !emit(Law.CLAUSE_END)) {
                    return false;
                }
                if (tape.next() == Tape.END) {
                    return true;
                }
                if (!tape.accept(';')) {
                    return false;
                }
            }
            return false;
        }

        private boolean readClause() {
            if (!tape.accept('y') || !tape.accept(':')) {
                return false;
            }
            int sign = tape.next();
            boolean begun = sign != '!' && sign != '(';
            if (begun) {
                if (!readRow(SUM, 0, false)) {
                    return false;
                }
                if (!compares(tape.next())) {
                    return true;
                }
            }
            return readRow(CONDITION, 0, begun) && tape.accept('?') && emit(Law.IF) && readRow(SUM, 0, false);
        }

        /** A row of parts; begun: the SUM that its first UNIT begins with has been read. */
        private boolean readRow(int row, int depth, boolean begun) {
            int sign = 0;
            for (int i = 0; i < Tape.MOST; i++) {
                boolean read;
                switch (row) {
                    case CONDITION: read = readRow(TRUTH, depth, begun && i == 0); break;
                    case TRUTH: read = readUnit(depth, begun && i == 0); break;
                    case SUM: read = readRow(TERM, depth, false); break;
                    default: read = readAtom(depth); break;
                }
                if (!read || i > 0 && !emit(-sign)) {
                    return false;
                }
                sign = tape.next();
                if (!joins(row, sign)) {
                    return true;
                }
                tape.at++;
            }
            return false;
        }

        private boolean readUnit(int depth, boolean begun) {
            int sign = tape.next();
            if (!begun && (sign == '!' || sign == '(')) {
                if (depth >= DEEPEST) {
                    return false;
                }
                tape.at++;
                if (sign == '(') {
                    return readRow(CONDITION, depth + 1, false) && tape.accept(')');
                }
                return readUnit(depth + 1, false) && emit(Law.NOT);
            }
            if (!begun && !readRow(SUM, depth, false)) {
                return false;
            }
            sign = tape.next();
            if (!compares(sign)) {
                return false;
            }
            tape.at++;
            return readRow(SUM, depth, false) && emit(-sign);
        }

        private boolean readAtom(int depth) {
            int sign = tape.next();
            if (sign == '[') {
                if (depth >= DEEPEST) {
                    return false;
                }
                tape.at++;
                return readRow(SUM, depth + 1, false) && tape.accept(']');
            }
            int letter = sign == Tape.END ? NONE : LETTERS.indexOf((char) sign);
            if (letter != NONE) {
                tape.at++;
                return emit(Law.LETTER + letter);
            }
            int value = tape.number(4);
            return value != NONE && emit(value);
        }

        private boolean emit(int sign) {
            if (size >= code.length) {
                return false;
            }
            code[size] = sign;
            size++;
            return true;
        }

        private static boolean compares(int sign) {
            return sign == '=' || sign == '<' || sign == '>';
        }

        private static boolean joins(int row, int sign) {
            switch (row) {
                case CONDITION: return sign == '|';
                case TRUTH: return sign == '&';
                case SUM: return sign == '+' || sign == '-';
                default: return sign == '*' || sign == '/';
            }
        }
    }

    /** A SPRING: its STEPS. */
    private static final class Spring {
        static final int MOST = 16;
        static final int FORGIVING = 0;
        static final int PAINTING = 1;
        static final int INSPECTING = 2;
        static final int DAY = 3;

        final int[] kinds = new int[MOST];
        final int[] firsts = new int[MOST];
        final int[] seconds = new int[MOST];
        int size = 0;

        boolean read(Tape tape) {
            tape.at = 0;
            for (size = 0; size < MOST; size++) {
                if (!readStep(tape, size)) {
                    return false;
                }
                if (tape.next() == Tape.END) {
                    size++;
                    return true;
                }
                if (size == MOST - 1 || !tape.accept(';')) {
                    return false;
                }
            }
            return false;
        }

        private boolean readStep(Tape tape, int i) {
            int kind = kindOf(tape.next());
            if (kind == NONE) {
                return false;
            }
            tape.at++;
            kinds[i] = kind;
            firsts[i] = NONE;
            seconds[i] = NONE;
            if (kind != DAY) {
                firsts[i] = tape.digit();
                if (firsts[i] == NONE) {
                    return false;
                }
            }
            if (kind == PAINTING) {
                seconds[i] = tape.digit();
                return seconds[i] != NONE;
            }
            return true;
        }

        private static int kindOf(int sign) {
            switch (sign) {
                case 'f': return FORGIVING;
                case 'p': return PAINTING;
                case 'i': return INSPECTING;
                case 'n': return DAY;
                default: return NONE;
            }
        }
    }

    /** What every state goes by: the VILLAGE as told and the LAW that holds (null: none). */
    private static final class Setting {
        Village village = new Village();
        Law law = null;
        final int[] letters = new int[6];
    }

    /** How things stand, now or apart. A place whose wrong weighs 0 has none. */
    private static final class State {
        static final int WIDTH = 3 * PLACES + 3 * FARMS + 5;
        private static final int FENCES = 3 * PLACES;
        private static final int STOCKS = FENCES + 3 * FARMS;

        final int[] who = new int[PLACES];
        final int[] whom = new int[PLACES];
        final int[] heavy = new int[PLACES];
        final int[] truly = new int[FARMS];
        final int[] falsely = new int[FARMS];
        final int[] pardons = new int[FARMS];
        int forgiven = 0;
        int brown = 0;
        int lime = 0;
        int coins = 0;
        int day = 0;
        // What came through on the latest DAY is for the LOG alone, so that rows do not keep it.
        int came = 0;
        private final Setting setting;
        private final int[] row = new int[WIDTH];

        State(Setting setting) {
            this.setting = setting;
        }

        void begin() {
            Village village = setting.village;
            for (int place = 0; place < PLACES; place++) {
                boolean there = place < village.told;
                who[place] = there ? village.who[place] : 0;
                whom[place] = there ? village.whom[place] : 0;
                heavy[place] = there ? village.heavy[place] : 0;
            }
            Arrays.fill(truly, 0);
            Arrays.fill(falsely, 0);
            Arrays.fill(pardons, 0);
            forgiven = 0;
            brown = 0;
            lime = village.lime;
            coins = village.coins;
            day = 0;
        }

        void keep(int[] to) {
            System.arraycopy(who, 0, to, 0, PLACES);
            System.arraycopy(whom, 0, to, PLACES, PLACES);
            System.arraycopy(heavy, 0, to, 2 * PLACES, PLACES);
            System.arraycopy(truly, 0, to, FENCES, FARMS);
            System.arraycopy(falsely, 0, to, FENCES + FARMS, FARMS);
            System.arraycopy(pardons, 0, to, FENCES + 2 * FARMS, FARMS);
            to[STOCKS] = forgiven;
            to[STOCKS + 1] = brown;
            to[STOCKS + 2] = lime;
            to[STOCKS + 3] = coins;
            to[STOCKS + 4] = day;
        }

        void recall(int[] from) {
            System.arraycopy(from, 0, who, 0, PLACES);
            System.arraycopy(from, PLACES, whom, 0, PLACES);
            System.arraycopy(from, 2 * PLACES, heavy, 0, PLACES);
            System.arraycopy(from, FENCES, truly, 0, FARMS);
            System.arraycopy(from, FENCES + FARMS, falsely, 0, FARMS);
            System.arraycopy(from, FENCES + 2 * FARMS, pardons, 0, FARMS);
            forgiven = from[STOCKS];
            brown = from[STOCKS + 1];
            lime = from[STOCKS + 2];
            coins = from[STOCKS + 3];
            day = from[STOCKS + 4];
        }

        void copyFrom(State other) {
            other.keep(row);
            recall(row);
        }

        boolean isOpen(int place) {
            return place >= 0 && place < PLACES && heavy[place] > 0;
        }

        int whiteYards(int farm) {
            return truly[farm] + falsely[farm];
        }

        int bare(int farm) {
            return setting.village.yards[farm] - whiteYards(farm);
        }

        int bareInAll() {
            int sum = 0;
            for (int farm = 0; farm < setting.village.farms; farm++) {
                sum += bare(farm);
            }
            return sum;
        }

        int whites() {
            int bits = 0;
            for (int farm = 0; farm < setting.village.farms; farm++) {
                bits |= bare(farm) == 0 ? 1 << farm : 0;
            }
            return bits;
        }

        int falseFarms() {
            int bits = 0;
            for (int farm = 0; farm < setting.village.farms; farm++) {
                bits |= falsely[farm] > 0 ? 1 << farm : 0;
            }
            return bits;
        }

        int opens() {
            int bits = 0;
            for (int place = 0; place < PLACES; place++) {
                bits |= heavy[place] > 0 ? 1 << place : 0;
            }
            return bits;
        }

        int doneBy(int farm) {
            int bits = 0;
            for (int place = 0; place < PLACES; place++) {
                bits |= heavy[place] > 0 && who[place] == farm ? 1 << place : 0;
            }
            return bits;
        }

        int doneTo(int farm) {
            int bits = 0;
            for (int place = 0; place < PLACES; place++) {
                bits |= heavy[place] > 0 && whom[place] == farm ? 1 << place : 0;
            }
            return bits;
        }

        /** Farms (bits) that one OPEN WRONG leads to from any of these. */
        int reachedFrom(int farms) {
            int bits = 0;
            for (int place = 0; place < PLACES; place++) {
                bits |= heavy[place] > 0 && (farms >> who[place] & 1) == 1 ? 1 << whom[place] : 0;
            }
            return bits;
        }

        /** The fewest OPEN WRONGS that lead from any of these farms (bits) to one. */
        int links(int farms, int to) {
            int reached = farms;
            for (int links = 0; links < FARMS; links++) {
                if ((reached >> to & 1) == 1) {
                    return links;
                }
                reached |= reachedFrom(reached);
            }
            return NONE;
        }

        int yardsOf(int place) {
            int victim = whom[place];
            int grudge = setting.village.grudges[victim];
            int worth = 2 * heavy[place] + 1 - grudge / 3;
            if (setting.law != null) {
                int[] letters = setting.letters;
                letters[0] = heavy[place];
                letters[1] = grudge;
                letters[2] = pardons[who[place]];
                letters[3] = bare(victim);
                letters[4] = lime;
                letters[5] = day;
                worth = setting.law.worth(letters);
            }
            int held = Math.max(Math.min(worth, MOST_YARDS), 0);
            return Math.min(held, Math.min(bare(victim), lime));
        }

        /** Paints a wrong's yards, but leaves it in its place: a search scrapes them off again. */
        int paintOff(int place) {
            int yards = yardsOf(place);
            truly[whom[place]] += yards;
            lime -= yards;
            pardons[who[place]]++;
            return yards;
        }

        void scrapeOff(int place, int yards) {
            truly[whom[place]] -= yards;
            lime += yards;
            pardons[who[place]]--;
        }

        int pardon(int place) {
            if (!isOpen(place)) {
                return NONE;
            }
            int yards = paintOff(place);
            heavy[place] = 0;
            forgiven = Math.min(forgiven + 1, MOST_STOCK);
            return yards;
        }

        int daub(int farm, int n) {
            if (!setting.village.isFarm(farm) || n < 1 || n > MOST_DAUBED || n > lime || n > bare(farm)) {
                return NONE;
            }
            falsely[farm] += n;
            lime -= n;
            return falsely[farm];
        }

        int thumb(int farm) {
            if (!setting.village.isFarm(farm) || falsely[farm] == 0) {
                return NONE;
            }
            int yards = falsely[farm];
            falsely[farm] = 0;
            coins = Math.max(coins - yards, 0);
            return yards;
        }

        int offend(int one, int other, int weight) {
            Village village = setting.village;
            if (!village.isFarm(one) || !village.isFarm(other) || one == other || weight < 1 || weight > HEAVIEST) {
                return NONE;
            }
            for (int place = 0; place < PLACES; place++) {
                if (heavy[place] == 0) {
                    who[place] = one;
                    whom[place] = other;
                    heavy[place] = weight;
                    return place;
                }
            }
            return NONE;
        }

        /** A DAY, whatever its number: only some callers stop at the last one. */
        void wear() {
            came = 0;
            for (int farm = 0; farm < setting.village.farms; farm++) {
                int through = (falsely[farm] + 1) / 2;
                falsely[farm] -= through;
                came += through;
                if (day % 3 == 2 && truly[farm] > 0) {
                    truly[farm]--;
                }
            }
            brown = Math.min(brown + came, MOST_BROWN);
            coins = Math.min(coins + Integer.bitCount(whites()), MOST_STOCK);
            day++;
        }

        /** One STEP: the yards of TRUE white that it paints; NONE: it can't be. */
        int take(Spring spring, int i) {
            switch (spring.kinds[i]) {
                case Spring.FORGIVING: return pardon(spring.firsts[i]);
                case Spring.PAINTING: return daub(spring.firsts[i], spring.seconds[i]) == NONE ? NONE : 0;
                case Spring.INSPECTING: return thumb(spring.firsts[i]) == NONE ? NONE : 0;
                default: break;
            }
            if (day >= LAST_DAY) {
                return NONE;
            }
            wear();
            return 0;
        }
    }

    /**
     * States to go back to, the LOG and the IMAGE. Each DAY logs once, so that the LOG is as long as the DAY says;
     * it holds what 40 undone DAYS lay bare again beside the latest 60.
     */
    private static final class History {
        static final int LOGGED = 60;
        private static final int UNDONE = 40;
        private static final int HELD = LOGGED + UNDONE;

        int size = 0;
        // One row more than can be undone: an act is prepared in it before it is known whether it can be.
        private final int[][] rows = new int[UNDONE + 1][State.WIDTH];
        private int next = 0;
        private final int[][] entries = new int[3][HELD];
        private boolean portrayed = false;
        private final int[] portrait = new int[State.WIDTH];
        private final int[][] portraitEntries = new int[3][LOGGED];

        static int logLength(State state) {
            return Math.min(state.day, LOGGED);
        }

        void clear() {
            size = 0;
            portrayed = false;
        }

        void prepare(State state) {
            state.keep(rows[next]);
        }

        void close() {
            next = (next + 1) % rows.length;
            size = Math.min(size + 1, UNDONE);
        }

        boolean takeBack(State state) {
            if (size == 0) {
                return false;
            }
            next = (next + UNDONE) % rows.length;
            size--;
            state.recall(rows[next]);
            return true;
        }

        /** Logs the DAY that has just gone by. */
        void write(State state) {
            int slot = Math.max(state.day - 1, 0) % HELD;
            entries[0][slot] = state.whites();
            entries[1][slot] = state.came;
            entries[2][slot] = state.lime;
        }

        int logged(int day, int what) {
            return entries[what][Math.max(day, 0) % HELD];
        }

        void portray(State state) {
            state.keep(portrait);
            portrayed = true;
            for (int i = 0; i < logLength(state); i++) {
                for (int what = 0; what < 3; what++) {
                    portraitEntries[what][i] = logged(state.day - 1 - i, what);
                }
            }
        }

        boolean restore(State state) {
            if (!portrayed) {
                return false;
            }
            state.recall(portrait);
            size = 0;
            for (int i = 0; i < logLength(state); i++) {
                for (int what = 0; what < 3; what++) {
                    entries[what][(state.day - 1 - i) % HELD] = portraitEntries[what][i];
                }
            }
            return true;
        }
    }

    /** Searches through what may be forgiven, on a state that is as it was behind each of them. */
    private static final class Search {
        private static final int PARTS = 1000000000;
        private static final int NOBODY = 9;

        int bits = NONE;
        int size = NONE;
        int yards = NONE;
        private int allowed = 0;
        private int aim = 0;
        private int limit = 0;
        private final State state;
        private final int[] worths = new int[PLACES];

        Search(State state) {
            this.state = state;
        }

        /** The fewest of these places (bits) by which these farms (bits) are white. */
        void whiten(int places, int farms) {
            bits = NONE;
            size = NONE;
            allowed = places;
            aim = farms;
            tryWhite(0, 0, 0);
        }

        private void tryWhite(int from, int chosen, int count) {
            if (size != NONE && count > size) {
                return;
            }
            if ((state.whites() & aim) == aim) {
                if (size == NONE || count < size || chosen < bits) {
                    size = count;
                    bits = chosen;
                }
                return;
            }
            for (int place = from; place < PLACES; place++) {
                if ((allowed >> place & 1) == 1) {
                    int painted = state.paintOff(place);
                    tryWhite(place + 1, chosen | 1 << place, count + 1);
                    state.scrapeOff(place, painted);
                }
            }
        }

        /** The places, so many at most, by which most yards are painted. */
        void enrich(int most) {
            bits = 0;
            size = 0;
            yards = 0;
            limit = most;
            tryRich(0, 0, 0, 0);
        }

        private void tryRich(int from, int chosen, int count, int sum) {
            if (sum > yards || sum == yards && (count < size || count == size && chosen < bits)) {
                bits = chosen;
                size = count;
                yards = sum;
            }
            for (int place = from; place < PLACES && count < limit; place++) {
                if (state.isOpen(place)) {
                    int painted = state.paintOff(place);
                    tryRich(place + 1, chosen | 1 << place, count + 1, sum + painted);
                    state.scrapeOff(place, painted);
                }
            }
        }

        /** The row of PAIRS becomes the bits. */
        void pairUp() {
            for (int place = 0; place < PLACES; place++) {
                worths[place] = state.isOpen(place) ? state.yardsOf(place) : 0;
            }
            bits = NONE;
            yards = NONE;
            tryPairs(0, 0, 0, 0);
        }

        /** Goes through the rows from the least on, so that the first of several stays. */
        private void tryPairs(int farm, int row, int painters, int sum) {
            if (farm >= state.setting.village.farms) {
                if (sum > yards) {
                    bits = row;
                    yards = sum;
                }
                return;
            }
            int done = state.doneTo(farm);
            for (int place = 0; place < PLACES; place++) {
                int painter = 1 << state.who[place];
                if ((done >> place & 1) == 1 && (painters & painter) == 0) {
                    tryPairs(farm + 1, 10 * row + place, painters | painter, sum + worths[place]);
                }
            }
            tryPairs(farm + 1, 10 * row + NOBODY, painters, sum);
        }

        /** Of all parts those by which a farm is white, when the wrongs done to it are forgiven by chance. */
        int whiteOdds(int farm, int chance) {
            return whiteParts(farm, 0, PARTS, chance);
        }

        private int whiteParts(int farm, int from, int parts, int chance) {
            if (state.bare(farm) == 0) {
                return parts;
            }
            int done = state.doneTo(farm);
            int place = from;
            while (place < PLACES && (done >> place & 1) == 0) {
                place++;
            }
            if (place >= PLACES || parts == 0) {
                return 0;
            }
            int forgiving = (int) ((long) parts * chance / 100);
            int painted = state.paintOff(place);
            int white = whiteParts(farm, place + 1, forgiving, chance);
            state.scrapeOff(place, painted);
            return white + whiteParts(farm, place + 1, parts - forgiving, chance);
        }
    }

    /** What was SEEN of told wrongs, and how heavy these may have been. */
    private static final class Sightings {
        static final int MOST = 10;

        int size = 0;
        private final int[] wrongs = new int[MOST];
        private final int[] marks = new int[MOST];
        private final boolean[] reached = new boolean[MOST];
        private final int[] yards = new int[HEAVIEST + 1];
        private final State state;

        Sightings(State state) {
            this.state = state;
        }

        void add(int wrong, int mark, boolean more) {
            if (size < MOST) {
                wrongs[size] = wrong;
                marks[size] = mark;
                reached[size] = more;
                size++;
            }
        }

        /** The weights (bits) with which all that was seen of a told wrong is so. */
        int fitting(int wrong) {
            state.begin();
            int bits = 0;
            for (int weight = 1; weight <= HEAVIEST; weight++) {
                state.heavy[wrong] = weight;
                yards[weight] = state.yardsOf(wrong);
                bits |= agrees(wrong, yards[weight]) ? 1 << weight : 0;
            }
            return bits;
        }

        private boolean agrees(int wrong, int painted) {
            for (int i = 0; i < size; i++) {
                if (wrongs[i] == wrong && painted >= marks[i] != reached[i]) {
                    return false;
                }
            }
            return true;
        }

        int bestMark(int wrong) {
            int fitting = fitting(wrong);
            int best = NONE;
            int leastApart = HEAVIEST + 1;
            for (int mark = 0; mark <= MOST_YARDS && fitting != 0; mark++) {
                int apart = apart(fitting, mark);
                if (apart < leastApart) {
                    leastApart = apart;
                    best = mark;
                }
            }
            return best;
        }

        private int apart(int fitting, int mark) {
            int more = 0;
            for (int weight = 1; weight <= HEAVIEST; weight++) {
                if ((fitting >> weight & 1) == 1) {
                    more += yards[weight] >= mark ? 1 : -1;
                }
            }
            return Math.abs(more);
        }
    }

    /** GAMES of two farms, and their RESTS. */
    private static final class Gamble {
        static final int CHOICES = 3;
        private static final int FORGIVING = 1;
        private static final int PAINTING = 2;

        final int[][] first = new int[CHOICES][CHOICES];
        final int[][] second = new int[CHOICES][CHOICES];
        final int[] restRow = new int[CHOICES * CHOICES];
        int restCount = 0;
        private final State now;
        private final State state;

        Gamble(State now, State state) {
            this.now = now;
            this.state = state;
        }

        void play(int one, int other, int x, int y) {
            state.copyFrom(now);
            choose(one, other, x);
            choose(other, one, y);
            first[x][y] = gain(one, x);
            second[x][y] = gain(other, y);
        }

        private void choose(int farm, int other, int choice) {
            if (choice == PAINTING) {
                state.daub(farm, Math.min(MOST_DAUBED, Math.min(state.lime, state.bare(farm))));
            }
            int wrongs = choice == FORGIVING ? state.doneTo(farm) & state.doneBy(other) : 0;
            for (int place = 0; place < PLACES; place++) {
                if ((wrongs >> place & 1) == 1) {
                    state.paintOff(place);
                }
            }
        }

        private int gain(int farm, int choice) {
            return state.whiteYards(farm) - now.whiteYards(farm) - (choice == PAINTING ? 2 : 0);
        }

        void findRests(int one, int other) {
            for (int x = 0; x < CHOICES; x++) {
                for (int y = 0; y < CHOICES; y++) {
                    play(one, other, x, y);
                }
            }
            restCount = 0;
            for (int x = 0; x < CHOICES; x++) {
                for (int y = 0; y < CHOICES; y++) {
                    if (isRest(x, y)) {
                        restRow[restCount] = 10 * x + y;
                        restCount++;
                    }
                }
            }
        }

        private boolean isRest(int x, int y) {
            for (int another = 0; another < CHOICES; another++) {
                if (first[another][y] > first[x][y] || second[x][another] > second[x][y]) {
                    return false;
                }
            }
            return true;
        }
    }
}
