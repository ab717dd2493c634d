import java.util.Arrays;
import java.util.NoSuchElementException;

/**
 * Sea cloth: cloth that is woven by day, and of which the sea takes one thread each night.
 *
 * <p>A thread is numbered 6 times its kind and its number, which is also its bit in a set of
 * threads: picks are 0 to 5, ends 6 to 11. All arrays are made with the object and used again,
 * so that no call makes anything.
 */
public final class SeaCloth {
    public static final int NONE = -1;

    private static final int PICK = 0;
    private static final int END = 1;
    private static final int SIDE = 6;
    private static final int THREADS = 12;
    private static final int PICK_SET = 63;
    private static final int ALL_SETS = 4096;
    private static final int NOTHING = -2;
    private static final int MISSING = -3;
    private static final int OTHER_SIZE = -100;
    private static final int NO_SUCH_COUNT = -100;
    private static final int LAW_FAULT = -10000;

    private static final int TEXT_SIGNS = 80;
    private static final int RULE_SIGNS = 40;
    private static final int WORK_SIGNS = 60;
    private static final int MOST_NIGHTS = 60;
    private static final int LAW_NIGHTS = 10;
    private static final int MOST_TAKEN = 4;
    private static final int MOST_TOLD = 12;
    private static final int MOST_UNDONE = 15;
    private static final int KEPT = 3;

    private final Weave weave = new Weave();
    private final Weave trial = new Weave();
    private final Weave rival = new Weave();
    private final Text text = new Text();
    private final Row told = new Row();
    private final Rule rule = new Rule();
    private final Rule otherRule = new Rule();
    private final Bonds bonds = new Bonds();
    private final Cuttings cuttings = new Cuttings();
    private final Tales tales = new Tales();
    private final Memory past = new Memory(MOST_UNDONE);
    private final Memory kept = new Memory(KEPT);
    private int chance;

    public SeaCloth() {
        chance = 0;
    }

    // ---- a cloth

    public int sign(int v) {
        if (text.size + 4 > TEXT_SIGNS) {
            return NONE;
        }
        text.add((v >>> 24) & 255);
        text.add((v >>> 16) & 255);
        text.add((v >>> 8) & 255);
        text.add(v & 255);
        return text.size;
    }

    public boolean end(int n) {
        if (n < 0 || n > text.size) {
            return false;
        }
        text.size = n;
        return true;
    }

    public int cloth() {
        int fault = trial.readFrom(text);
        text.size = 0;
        if (fault != NONE) {
            return -1 - fault;
        }
        weave.become(trial);
        past.empty();
        kept.empty();
        return weave.picks;
    }

    public int rule() {
        int fault = otherRule.readFrom(text);
        text.size = 0;
        if (fault != NONE) {
            return -1 - fault;
        }
        rule.become(otherRule);
        return 0;
    }

    public int cell(int pick, int end) throws NoSuchElementException {
        if (!weave.crosses(pick, end)) {
            throw new NoSuchElementException();
        }
        return weave.overAt(pick, end);
    }

    public int thread(int kind, int i, int what) throws NoSuchElementException {
        if (!weave.has(kind, i) || what < 0 || what > 4) {
            throw new NoSuchElementException();
        }
        switch (what) {
            case 0:
                return weave.cellsOf(kind, i);
            case 1:
                return weave.changesOf(kind, i);
            case 2:
                return weave.likesOf(kind, i);
            case 3:
                return weave.isLoose(kind, i) ? 1 : 0;
            default:
                return 100 + rule.pullOf(weave, kind, i);
        }
    }

    public int sheet(int kind, int n, int f, int step) {
        if (kind < 0 || kind > 3 || n > SIDE) {
            return NONE;
        }
        if (kind < 3 && n < 0) {
            return NOTHING;
        }
        // A byte, a short and an int have the same lowest six bits, so the kinds don't differ.
        int entries = kind == 3 ? 0 : n;
        int sum = weave.fillPicks(entries, f, step);
        return kind == 3 ? MISSING : sum;
    }

    // ---- nights, work

    public int nights(int n) {
        if (n < 0 || n > MOST_NIGHTS) {
            return NONE;
        }
        past.push(weave.shape(), weave.night);
        return passNights(n);
    }

    public int weaves(int kind, int i, int v) {
        long shape = weave.shape();
        int answer = weave.weaveIn(kind, i, v);
        return noted(answer, shape, weave.night);
    }

    public int draws(int kind, int i) {
        long shape = weave.shape();
        int answer = weave.drawOut(kind, i);
        return noted(answer, shape, weave.night);
    }

    public int flips(int pick, int end) {
        long shape = weave.shape();
        int answer = weave.turnCell(pick, end);
        return noted(answer, shape, weave.night);
    }

    public int mirrors(int kind) {
        long shape = weave.shape();
        int answer = weave.turnRound(kind);
        return noted(answer, shape, weave.night);
    }

    public int work() {
        int fault = workFault();
        if (fault != NONE) {
            text.size = 0;
            return -1 - fault;
        }
        long shape = weave.shape();
        int night = weave.night;
        int done = 0;
        int refused = 0;
        int at = 0;
        while (at < text.size && refused == 0) {
            if (actAt(at) < 0) {
                refused = 1;
            } else {
                done++;
            }
            at += 1 + digitsOf(text.at(at)).length();
        }
        text.size = 0;
        if (done > 0) {
            past.push(shape, night);
        }
        told.tell(refused, weave.threads());
        return done;
    }

    public int undo() {
        if (past.size == 0) {
            return NONE;
        }
        past.size--;
        past.bringBack(past.size, weave);
        return past.size;
    }

    // ---- what goes, what is left

    public int next() {
        int goes = rule.goesOf(weave);
        if (goes < 0) {
            return NOTHING;
        }
        told.tell(100 + rule.pullOf(weave, goes / SIDE, goes % SIDE));
        return goes;
    }

    public int later(int n) {
        if (n < 0 || n > MOST_NIGHTS) {
            return NONE;
        }
        trial.become(weave);
        for (int night = 0; night < n; night++) {
            trial.passNight(rule.goesOf(trial));
        }
        told.tell(trial.picks, trial.ends);
        for (int p = 0; p < trial.picks; p++) {
            told.add(trial.cellsOf(PICK, p));
        }
        return trial.threads();
    }

    public int falls() {
        trial.become(weave);
        for (int night = 0; night <= MOST_NIGHTS; night++) {
            if (!bonds.isTogether(trial)) {
                told.tell(trial.threads());
                return night;
            }
            trial.passNight(rule.goesOf(trial));
        }
        return NOTHING;
    }

    public int rags() {
        int fault = trial.readFrom(text);
        text.size = 0;
        if (fault != NONE) {
            return -1 - fault;
        }
        told.clear();
        int ways = 0;
        for (int ends = 0; ends < 1 << weave.ends; ends++) {
            if (weave.ends - Integer.bitCount(ends) == trial.ends) {
                ways += ragsWithout(ends, ways == 0);
            }
        }
        return ways;
    }

    public int lefts(int n) {
        if (n < 0 || n > MOST_TAKEN) {
            return NONE;
        }
        cuttings.forgetShapes();
        int sets = 0;
        int shapes = 0;
        int everyPick = (1 << weave.picks) - 1;
        int everyEnd = (1 << weave.ends) - 1;
        for (int ends = 0; ends < everyEnd; ends++) {
            cuttings.narrow(weave, ends);
            for (int picks = 0; picks < everyPick; picks++) {
                if (Integer.bitCount(picks) + Integer.bitCount(ends) == n) {
                    sets++;
                    shapes += cuttings.isNew(cuttings.shapeWithout(weave, picks)) ? 1 : 0;
                }
            }
        }
        told.tell(sets);
        return shapes;
    }

    // ---- words

    public int outlasts() {
        int most = 0;
        int best = 0;
        for (int set = 1; set < 1 << weave.picks; set++) {
            int size = Integer.bitCount(set);
            if (size > most && staysApart(set)) {
                most = size;
                best = set;
            }
        }
        told.tell(best);
        return most;
    }

    public int words(int n, int a) {
        if (n < 1 || n > SIDE || a < 0 || a > n) {
            return NONE;
        }
        int found = 0;
        int least = 0;
        int greatest = 0;
        for (int word = 0; word < 1 << n; word++) {
            if (checkSum(word, n) % (n + 1) == a) {
                least = found == 0 ? word : least;
                greatest = word;
                found++;
            }
        }
        told.clear();
        if (found > 0) {
            told.tell(least, greatest);
        }
        return found;
    }

    // ---- what holds

    public int loose() {
        int set = weave.looseIn(weave.all());
        told.tell(Integer.bitCount(set & PICK_SET), Integer.bitCount(set >>> SIDE));
        return set;
    }

    public int sheds() {
        int left = weave.all();
        int times = 0;
        int off = weave.looseIn(left);
        while (off != 0 && times <= THREADS) {
            left &= ~off;
            times++;
            off = weave.looseIn(left);
        }
        told.tell(left, times);
        return Integer.bitCount(left);
    }

    public int hangs() {
        int all = weave.all();
        bonds.tie(weave);
        int left = all;
        int layers = 0;
        int uppermost = 0;
        for (int turn = 0; turn < THREADS && left != 0; turn++) {
            int from = left & -left;
            int down = Bonds.reached(from, all, bonds.below);
            int layer = down & Bonds.reached(from, all, bonds.above);
            layers++;
            uppermost = down == all ? layer : uppermost;
            left &= ~layer;
        }
        told.tell(layers, uppermost);
        return layers == 1 ? 1 : 0;
    }

    public int spares() {
        int all = weave.all();
        int set = 0;
        bonds.tie(weave);
        for (int t = 0; t < THREADS; t++) {
            int one = 1 << t;
            if ((all & one) != 0 && bonds.areTogether(all ^ one)) {
                set |= one;
            }
        }
        told.tell(Integer.bitCount(set));
        return set;
    }

    public int mends() {
        int all = weave.all();
        bonds.tie(weave);
        if (bonds.areTogether(all)) {
            told.clear();
            return 0;
        }
        int one = mendingCell(0, all);
        if (one != NONE) {
            told.tell(one);
            return 1;
        }
        for (int first = 0; first < SIDE * weave.picks; first++) {
            if (weave.crosses(first / SIDE, first % SIDE)) {
                bonds.turn(first / SIDE, first % SIDE);
                int second = mendingCell(first + 1, all);
                bonds.turn(first / SIDE, first % SIDE);
                if (second != NONE) {
                    told.tell(first, second);
                    return 2;
                }
            }
        }
        return NOTHING;
    }

    public int endures() {
        bonds.tabulate(weave);
        int all = weave.all();
        int fewest = THREADS + 1;
        int least = 0;
        int taken = 0;
        for (int turn = 0; turn < ALL_SETS; turn++) {
            int size = Integer.bitCount(taken);
            if (size < fewest && !Bonds.isIn(bonds.holding, all ^ taken)) {
                fewest = size;
                least = taken;
            }
            taken = (taken - all) & all;
            if (taken == 0) {
                break;
            }
        }
        told.tell(least, bonds.longestTaking(all));
        return fewest;
    }

    // ---- how it looks

    public int differs() {
        int fault = trial.readFrom(text);
        text.size = 0;
        if (fault != NONE) {
            return -1 - fault;
        }
        if (trial.picks != weave.picks || trial.ends != weave.ends) {
            return OTHER_SIZE;
        }
        int fewest = SIDE * SIDE + 1;
        int bestDown = 0;
        int bestRight = 0;
        for (int down = 0; down < weave.picks; down++) {
            for (int right = 0; right < weave.ends; right++) {
                int cells = differences(down, right);
                if (cells < fewest) {
                    fewest = cells;
                    bestDown = down;
                    bestRight = right;
                }
            }
        }
        told.tell(fewest, bestDown);
        told.add(bestRight);
        return differences(0, 0);
    }

    public int looks() {
        int upsideDown = otherwise(true, false);
        int leftRight = otherwise(false, true);
        int both = otherwise(true, true);
        int across = weave.picks == weave.ends ? otherwiseAcross() : NONE;
        told.tell(upsideDown, leftRight);
        told.add(both);
        told.add(across);
        return (upsideDown == 0 ? 1 : 0) + (leftRight == 0 ? 2 : 0)
            + (both == 0 ? 4 : 0) + (across == 0 ? 8 : 0);
    }

    public int repeats() {
        told.tell(weave.repeatOf(END));
        return weave.repeatOf(PICK);
    }

    public int runs() {
        told.tell(weave.longestRun(PICK), weave.runsAlong(END));
        told.add(weave.longestRun(END));
        return weave.runsAlong(PICK);
    }

    public int twins() {
        told.clear();
        int pairs = 0;
        for (int a = 0; a < THREADS; a++) {
            for (int b = a + 1; b < THREADS; b++) {
                if (weave.areTwins(a, b)) {
                    if (pairs == 0) {
                        told.tell(a, b);
                    }
                    pairs++;
                }
            }
        }
        return pairs;
    }

    // ---- a game

    public int game() {
        bonds.tabulate(weave);
        int all = weave.all();
        int move = Bonds.isIn(bonds.holding, all) ? bonds.winningTake(all) : NONE;
        told.clear();
        if (move == NONE) {
            return 0;
        }
        told.tell(move);
        return 1;
    }

    // ---- which it was

    public int told(int what, int v) {
        if (tales.size >= MOST_TOLD || v < 0 || v > Tales.mostOf(what)) {
            return NONE;
        }
        tales.add(what, v);
        return tales.size;
    }

    public int forget() {
        int were = tales.size;
        tales.size = 0;
        return were;
    }

    public int fits() {
        int set = tales.fitting(weave);
        told.tell(Integer.bitCount(set));
        return set;
    }

    public int asks() {
        int set = tales.fitting(weave);
        if (set == 0) {
            return NOTHING;
        }
        int fewest = THREADS + 1;
        int best = 0;
        for (int what = 0; what < Tales.KINDS; what++) {
            for (int v = 0; v <= Tales.mostOf(what); v++) {
                int yes = Integer.bitCount(Tales.those(set, what, v, weave));
                int most = Math.max(yes, Integer.bitCount(set) - yes);
                if (most < fewest) {
                    fewest = most;
                    best = 10 * what + v;
                }
            }
        }
        told.tell(fewest);
        return best;
    }

    // ---- odds, laws, rests, years

    public int odds(int p) {
        if (p < 0 || p > 10) {
            return NONE;
        }
        bonds.tabulate(weave);
        int threads = weave.threads();
        long upper = 0;
        for (int left = 0; left <= threads; left++) {
            upper += bonds.holdingOf(left) * power(10 - p, left) * power(p, threads - left);
        }
        long lower = power(10, threads);
        long shared = commonDivisor(upper, lower);
        if (shared > 0) {
            told.tell(upper / shared, lower / shared);
        }
        return 0;
    }

    public int law() {
        int fault = otherRule.readFrom(text);
        text.size = 0;
        if (fault != NONE) {
            return LAW_FAULT - fault;
        }
        trial.become(weave);
        rival.become(weave);
        int others = 0;
        for (int night = 0; night < LAW_NIGHTS; night++) {
            int byOther = otherRule.goesOf(trial);
            int byRule = rule.goesOf(rival);
            others += byOther == byRule ? 0 : 1;
            trial.passNight(byOther);
            rival.passNight(byRule);
        }
        told.tell(trial.threads(), rival.threads());
        return others;
    }

    public int rests(int v) {
        if (v < 0 || v > 20) {
            return NONE;
        }
        told.clear();
        int pairs = 0;
        for (int x = 0; x <= 9; x++) {
            for (int y = 0; y <= 9; y++) {
                if (isBestAgainst(x, y, v) && isBestAgainst(y, x, v)) {
                    if (pairs == 0) {
                        told.tell(x, y);
                    }
                    pairs++;
                }
            }
        }
        return pairs;
    }

    public int years(int seed, int n) {
        if (n < 1 || n > MOST_NIGHTS) {
            return NONE;
        }
        chance = seed;
        trial.become(weave);
        for (int turn = 0; turn < n; turn++) {
            int what = drawnBelow(4);
            if (what < 2) {
                trial.passNight(rule.goesOf(trial));
            } else if (what == 2) {
                int pick = drawnBelow(trial.picks);
                int end = drawnBelow(trial.ends);
                trial.turnCell(pick, end);
            } else {
                weaveDrawn();
            }
        }
        told.tell(trial.overs(), bonds.isTogether(trial) ? 1 : 0);
        return trial.threads();
    }

    // ---- kept

    public boolean keep(int i) {
        if (i < 0 || i >= KEPT) {
            return false;
        }
        kept.put(i, weave.shape(), weave.night);
        return true;
    }

    public boolean again(int i) {
        if (!kept.holds(i)) {
            return false;
        }
        kept.bringBack(i, weave);
        past.empty();
        return true;
    }

    public int count(int what) {
        switch (what) {
            case 0:
                return weave.picks;
            case 1:
                return weave.ends;
            case 2:
                return weave.night;
            case 3:
                return weave.overs();
            case 4:
                return tales.size;
            case 5:
                return past.size;
            case 6:
                return told.size;
            case 7:
                return text.size;
            default:
                return NO_SUCH_COUNT;
        }
    }

    public long row(int i) throws NoSuchElementException {
        if (i < 0 || i >= told.size) {
            throw new NoSuchElementException();
        }
        return told.numbers[i];
    }

    // ---- helpers of the calls

    private int noted(int answer, long shape, int night) {
        if (answer >= 0) {
            past.push(shape, night);
        }
        return answer;
    }

    private int passNights(int n) {
        int picks = weave.picks;
        int ends = weave.ends;
        for (int night = 0; night < n; night++) {
            weave.passNight(rule.goesOf(weave));
        }
        told.tell(picks - weave.picks, ends - weave.ends);
        return weave.threads();
    }

    /** The highest digits that may stand behind an act's sign, in turn; none for another sign. */
    private static String digitsOf(int sign) {
        switch (sign) {
            case 'n':
                return "9";
            case 'w':
                return "1999";
            case 'd':
                return "19";
            case 't':
                return "99";
            case 'm':
                return "1";
            default:
                return "";
        }
    }

    /** Where the text is no work, or NONE. */
    private int workFault() {
        String digits = "";
        int at = 0;
        int length = Math.min(text.size, WORK_SIGNS);
        for (int p = 0; p < length; p++) {
            int sign = text.at(p);
            if (at == digits.length()) {
                digits = digitsOf(sign);
                at = 0;
                if (digits.isEmpty()) {
                    return p;
                }
            } else {
                if (sign < '0' || sign > digits.charAt(at)) {
                    return p;
                }
                at++;
            }
        }
        if (text.size > WORK_SIGNS) {
            return WORK_SIGNS;
        }
        return at < digits.length() ? text.size : NONE;
    }

    private int actAt(int at) {
        int first = text.digit(at + 1);
        int second = text.digit(at + 2);
        switch (text.at(at)) {
            case 'n':
                return passNights(first);
            case 'w':
                return weave.weaveIn(first, second, 10 * text.digit(at + 3) + text.digit(at + 4));
            case 'd':
                return weave.drawOut(first, second);
            case 't':
                return weave.turnCell(first, second);
            default:
                return weave.turnRound(first);
        }
    }

    /** How many sets of picks, taken out with these ends, leave the rag; the first one is told. */
    private int ragsWithout(int ends, boolean tells) {
        cuttings.narrow(weave, ends);
        long rag = trial.shape();
        int ways = 0;
        for (int picks = 0; picks < 1 << weave.picks; picks++) {
            if (cuttings.shapeWithout(weave, picks) == rag) {
                if (tells && ways == 0) {
                    told.tell(picks | ends << SIDE);
                }
                ways++;
            }
        }
        return ways;
    }

    private boolean staysApart(int set) {
        for (int a = 0; a < weave.picks; a++) {
            for (int b = a + 1; b < weave.picks; b++) {
                if ((set >>> a & set >>> b & 1) != 0 && canBeAlike(a, b)) {
                    return false;
                }
            }
        }
        return true;
    }

    private boolean canBeAlike(int a, int b) {
        for (int x = 0; x < weave.ends; x++) {
            int left = without(weave.cellsOf(PICK, a), x);
            for (int y = 0; y < weave.ends; y++) {
                if (left == without(weave.cellsOf(PICK, b), y)) {
                    return true;
                }
            }
        }
        return false;
    }

    private static int checkSum(int word, int n) {
        int sum = 0;
        for (int i = 0; i < n; i++) {
            sum += (word >>> i & 1) * (i + 1);
        }
        return sum;
    }

    /** The least cell from a number on that ties all together if it is turned, or NONE. */
    private int mendingCell(int from, int all) {
        for (int c = from; c < SIDE * weave.picks; c++) {
            if (weave.crosses(c / SIDE, c % SIDE)) {
                bonds.turn(c / SIDE, c % SIDE);
                boolean mended = bonds.areTogether(all);
                bonds.turn(c / SIDE, c % SIDE);
                if (mended) {
                    return c;
                }
            }
        }
        return NONE;
    }

    /** In how many cells the cloth is other than the told one that has gone round so far. */
    private int differences(int down, int right) {
        int cells = 0;
        for (int p = 0; p < weave.picks; p++) {
            for (int e = 0; e < weave.ends; e++) {
                int pick = (p + down) % weave.picks;
                int end = (e + right) % weave.ends;
                cells += trial.overAt(p, e) ^ weave.overAt(pick, end);
            }
        }
        return cells;
    }

    private int otherwise(boolean upsideDown, boolean leftRight) {
        int cells = 0;
        for (int p = 0; p < weave.picks; p++) {
            for (int e = 0; e < weave.ends; e++) {
                int pick = upsideDown ? weave.picks - 1 - p : p;
                int end = leftRight ? weave.ends - 1 - e : e;
                cells += weave.overAt(p, e) ^ weave.overAt(pick, end);
            }
        }
        return cells;
    }

    private int otherwiseAcross() {
        int cells = 0;
        for (int p = 0; p < weave.picks; p++) {
            for (int e = 0; e < weave.ends; e++) {
                cells += weave.overAt(p, e) ^ weave.overAt(e, p);
            }
        }
        return cells;
    }

    private static long power(int base, int exponent) {
        long value = 1;
        for (int i = 0; i < exponent; i++) {
            value *= base;
        }
        return value;
    }

    private static long commonDivisor(long a, long b) {
        long big = b;
        long small = a;
        for (int turn = 0; turn < 200 && small != 0; turn++) {
            long rest = big % small;
            big = small;
            small = rest;
        }
        return big;
    }

    private static int share(int mine, int yours, int v) {
        if (mine + yours <= v) {
            return mine;
        }
        if (mine == yours) {
            return v / 2 - 1;
        }
        return (mine < yours ? Math.min(mine, v) : v - Math.min(yours, v)) - 1;
    }

    private static boolean isBestAgainst(int mine, int yours, int v) {
        int has = share(mine, yours, v);
        for (int other = 0; other <= 9; other++) {
            if (share(other, yours, v) > has) {
                return false;
            }
        }
        return true;
    }

    private int drawnBelow(int n) {
        chance = chance * 1103515245 + 12345;
        return n > 0 ? (chance >>> 16) % n : 0;
    }

    private void weaveDrawn() {
        int kind = drawnBelow(2);
        int i = drawnBelow(trial.sizeOf(kind) + 1);
        int v = drawnBelow(64) & trial.fullOf(kind);
        trial.weaveIn(kind, i, v);
    }

    /** A word without one of its bits, those above it one lower. */
    private static int without(int word, int i) {
        int low = (1 << i) - 1;
        return word & low | word >>> 1 & ~low;
    }

    /** A word with one bit more at a place, those from it on one higher. */
    private static int with(int word, int i, int bit) {
        int low = (1 << i) - 1;
        return word & low | bit << i | (word & ~low) << 1;
    }

    /** The numbers told last. */
    private static final class Row {
        final long[] numbers = new long[SIDE + 2];
        int size = 0;

        void clear() {
            size = 0;
        }

        void add(long number) {
            if (size < numbers.length) {
                numbers[size] = number;
                size++;
            }
        }

        void tell(long only) {
            size = 0;
            add(only);
        }

        void tell(long first, long second) {
            size = 0;
            add(first);
            add(second);
        }
    }

    /** The text that is told, sign by sign. */
    private static final class Text {
        final int[] signs = new int[TEXT_SIGNS];
        int size = 0;

        void add(int sign) {
            if (size < signs.length) {
                signs[size] = sign;
                size++;
            }
        }

        int at(int p) {
            return p >= 0 && p < size ? signs[p] : NONE;
        }

        int digit(int p) {
            int sign = at(p);
            return sign >= '0' && sign <= '9' ? sign - '0' : NONE;
        }
    }

    /** Cloths with their nights, each cloth as one number (0: none). */
    private static final class Memory {
        final long[] shapes;
        final int[] nightsThen;
        int size = 0;

        Memory(int most) {
            shapes = new long[most];
            nightsThen = new int[most];
        }

        void empty() {
            size = 0;
            Arrays.fill(shapes, 0);
        }

        void push(long shape, int night) {
            if (size >= shapes.length) {
                for (int i = 1; i < shapes.length; i++) {
                    shapes[i - 1] = shapes[i];
                    nightsThen[i - 1] = nightsThen[i];
                }
                size = shapes.length - 1;
            }
            put(size, shape, night);
            size++;
        }

        void put(int i, long shape, int night) {
            if (i >= 0 && i < shapes.length) {
                shapes[i] = shape;
                nightsThen[i] = night;
            }
        }

        boolean holds(int i) {
            return i >= 0 && i < shapes.length && shapes[i] != 0;
        }

        void bringBack(int i, Weave weave) {
            if (holds(i)) {
                weave.takeShape(shapes[i]);
                weave.night = nightsThen[i];
            }
        }
    }

    /** A cloth and its night. */
    private static final class Weave {
        int picks = 1;
        int ends = 1;
        int night = 0;

        // Of each thread where it is over; those of ends follow from those of picks (see settle).
        final int[] cells = {1, 0, 0, 0, 0, 0, 0, 0, 0, 0, 0, 0};

        int sizeOf(int kind) {
            return kind == PICK ? picks : ends;
        }

        int threads() {
            return picks + ends;
        }

        /** The cells of a thread of a kind that is over in all. */
        int fullOf(int kind) {
            return (1 << (kind == PICK ? ends : picks)) - 1;
        }

        int all() {
            return fullOf(END) | fullOf(PICK) << SIDE;
        }

        boolean has(int kind, int i) {
            return (kind == PICK || kind == END) && i >= 0 && i < sizeOf(kind);
        }

        boolean crosses(int pick, int end) {
            return has(PICK, pick) && has(END, end);
        }

        /** Where a thread is over; 0 of one that is not there. */
        int cellsOf(int kind, int i) {
            int t = SIDE * kind + i;
            return t >= 0 && t < THREADS ? cells[t] : 0;
        }

        int overAt(int pick, int end) {
            return crosses(pick, end) ? cells[pick] >>> end & 1 : 0;
        }

        int overs() {
            int sum = 0;
            for (int p = 0; p < picks; p++) {
                sum += Integer.bitCount(cells[p]);
            }
            return sum;
        }

        int changesOf(int kind, int i) {
            int word = cellsOf(kind, i);
            int between = fullOf(kind) >>> 1;
            return Integer.bitCount((word ^ word >>> 1) & between);
        }

        int likesOf(int kind, int i) {
            int likes = 0;
            for (int other = 0; other < sizeOf(kind); other++) {
                likes += other != i && cellsOf(kind, other) == cellsOf(kind, i) ? 1 : 0;
            }
            return likes;
        }

        boolean areTwins(int a, int b) {
            int kind = a / SIDE;
            return kind == b / SIDE && has(kind, a % SIDE) && has(kind, b % SIDE)
                && cells[a] == cells[b];
        }

        boolean isLoose(int kind, int i) {
            int word = cellsOf(kind, i);
            return word == 0 || word == fullOf(kind);
        }

        /** Those of a set that are loose in it; none if a kind is gone. */
        int looseIn(int set) {
            int off = 0;
            int picksLeft = set & PICK_SET;
            int endsLeft = set >>> SIDE;
            if (picksLeft == 0 || endsLeft == 0) {
                return 0;
            }
            for (int t = 0; t < THREADS; t++) {
                int crossed = t < SIDE ? endsLeft : picksLeft;
                int word = cells[t] & crossed;
                if ((set >>> t & 1) != 0 && (word == 0 || word == crossed)) {
                    off |= 1 << t;
                }
            }
            return off;
        }

        int repeatOf(int kind) {
            for (int by = 1; by < sizeOf(kind); by++) {
                boolean repeats = true;
                for (int i = by; i < sizeOf(kind); i++) {
                    repeats = repeats && cellsOf(kind, i) == cellsOf(kind, i - by);
                }
                if (repeats) {
                    return by;
                }
            }
            return sizeOf(kind);
        }

        int runsAlong(int kind) {
            int runs = 0;
            for (int i = 0; i < sizeOf(kind); i++) {
                runs += 1 + changesOf(kind, i);
            }
            return runs;
        }

        int longestRun(int kind) {
            int longest = 1;
            for (int i = 0; i < sizeOf(kind); i++) {
                int word = cellsOf(kind, i);
                int run = 1;
                for (int c = 1; c < sizeOf(1 - kind); c++) {
                    run = (word >>> c & 1) == (word >>> c - 1 & 1) ? run + 1 : 1;
                    longest = Math.max(longest, run);
                }
            }
            return longest;
        }

        void settle() {
            for (int e = 0; e < SIDE; e++) {
                int word = 0;
                for (int p = 0; p < picks && e < ends; p++) {
                    word |= (cells[p] >>> e & 1 ^ 1) << p;
                }
                cells[SIDE + e] = word;
            }
        }

        void become(Weave other) {
            picks = other.picks;
            ends = other.ends;
            night = other.night;
            System.arraycopy(other.cells, 0, cells, 0, THREADS);
        }

        /** Picks, ends and all cells in one number that is never 0. */
        long shape() {
            long packed = 0;
            for (int p = SIDE - 1; p >= 0; p--) {
                packed = packed << SIDE | cells[p];
            }
            return packed << SIDE | ends << 3 | picks;
        }

        void takeShape(long shape) {
            picks = (int) (shape & 7);
            ends = (int) (shape >>> 3 & 7);
            for (int p = 0; p < SIDE; p++) {
                cells[p] = (int) (shape >>> SIDE + SIDE * p & PICK_SET);
            }
            settle();
        }

        /** Where the text tells no cloth, or NONE; behind a fault this is no cloth. */
        int readFrom(Text text) {
            int wide = text.digit(0);
            if (wide < 1 || wide > SIDE) {
                return 0;
            }
            Arrays.fill(cells, 0);
            for (int p = 1; p < text.size; p++) {
                int sign = text.at(p);
                if (p > SIDE * wide || sign != '#' && sign != '.') {
                    return p;
                }
                cells[(p - 1) / wide] |= sign == '#' ? 1 << (p - 1) % wide : 0;
            }
            int signs = text.size - 1;
            if (signs < wide || signs % wide != 0) {
                return text.size;
            }
            picks = signs / wide;
            ends = wide;
            night = 0;
            settle();
            return NONE;
        }

        /** Picks get entries first, first + step, ..; those behind get 0. Their sum. */
        int fillPicks(int entries, int first, int step) {
            int sum = 0;
            for (int p = 0; p < picks; p++) {
                cells[p] = p < entries ? first + p * step & fullOf(PICK) : 0;
                sum += cells[p];
            }
            settle();
            return sum;
        }

        int weaveIn(int kind, int i, int v) {
            if (kind != PICK && kind != END || i < 0 || i > sizeOf(kind)) {
                return NONE;
            }
            if (v < 0 || v > fullOf(kind)) {
                return NONE;
            }
            if (sizeOf(kind) >= SIDE) {
                return NOTHING;
            }
            if (kind == PICK) {
                for (int p = picks; p > i; p--) {
                    cells[p] = cells[p - 1];
                }
                cells[i] = v;
                picks++;
            } else {
                for (int p = 0; p < picks; p++) {
                    cells[p] = with(cells[p], i, v >>> p & 1 ^ 1);
                }
                ends++;
            }
            settle();
            return sizeOf(kind);
        }

        int drawOut(int kind, int i) {
            if (!has(kind, i)) {
                return NONE;
            }
            if (sizeOf(kind) == 1) {
                return NOTHING;
            }
            int had = cellsOf(kind, i);
            if (kind == PICK) {
                picks--;
                for (int p = i; p < picks; p++) {
                    cells[p] = cells[p + 1];
                }
                cells[picks] = 0;
            } else {
                ends--;
                for (int p = 0; p < picks; p++) {
                    cells[p] = without(cells[p], i);
                }
            }
            settle();
            return had;
        }

        int turnCell(int pick, int end) {
            if (!crosses(pick, end)) {
                return NONE;
            }
            cells[pick] ^= 1 << end;
            settle();
            return overs();
        }

        int turnRound(int kind) {
            if (kind != PICK && kind != END) {
                return NONE;
            }
            int size = sizeOf(kind);
            int elsewhere = 0;
            for (int i = 0; i < size; i++) {
                elsewhere += cellsOf(kind, i) == cellsOf(kind, size - 1 - i) ? 0 : 1;
            }
            if (kind == PICK) {
                for (int p = 0; p < size / 2; p++) {
                    int above = cells[p];
                    cells[p] = cells[size - 1 - p];
                    cells[size - 1 - p] = above;
                }
            } else {
                for (int p = 0; p < picks; p++) {
                    cells[p] = turnedRound(cells[p]);
                }
            }
            settle();
            return elsewhere;
        }

        private int turnedRound(int word) {
            int turned = 0;
            for (int e = 0; e < ends; e++) {
                turned = turned << 1 | word >>> e & 1;
            }
            return turned;
        }

        void passNight(int goes) {
            if (goes >= 0) {
                drawOut(goes / SIDE, goes % SIDE);
            }
            night++;
        }
    }

    /** A rule, with the signs set behind what they join, so that it is told without recursion. */
    private static final class Rule {
        // Codes below this are numbers, the others signs.
        private static final int SIGN = 1000;
        // Behind the codes of all signs that a text can have (0 to 255), so that none is taken for it.
        private static final int NEGATE = SIGN + 256;
        private static final int OPEN = SIGN + '(';
        private static final int MOST_OPEN = 4;
        private static final int MOST_DIGITS = 3;
        private static final int MOST_PULL = 99;

        private final int[] code = new int[RULE_SIGNS];
        private int size = 0;
        private final int[] waiting = new int[RULE_SIGNS];
        private int waits;
        private final boolean[] compared = new boolean[MOST_OPEN + 1];
        private int open;
        private int digits;
        private boolean wantsThing;
        private final int[] values = new int[RULE_SIGNS];

        Rule() {
            putPlainRule();
        }

        void become(Rule other) {
            size = other.size;
            System.arraycopy(other.code, 0, code, 0, RULE_SIGNS);
        }

        /** Where the text is no rule, or NONE; behind a fault this is no rule. */
        int readFrom(Text text) {
            size = 0;
            waits = 0;
            open = 0;
            compared[0] = false;
            wantsThing = true;
            if (text.size == 0) {
                putPlainRule();
                return NONE;
            }
            int length = Math.min(text.size, RULE_SIGNS);
            for (int p = 0; p < length; p++) {
                int sign = text.at(p);
                if (wantsThing ? !takesThing(sign) : !takesJoin(sign)) {
                    return p;
                }
            }
            if (text.size > RULE_SIGNS) {
                return RULE_SIGNS;
            }
            if (wantsThing || open > 0) {
                return text.size;
            }
            release(1);
            return NONE;
        }

        private void putPlainRule() {
            emit(SIGN + 'c');
            emit(SIGN + 'i');
            emit(SIGN + '-');
        }

        private boolean takesThing(int sign) {
            if (sign == '-') {
                hold(NEGATE);
                return true;
            }
            if (sign == '(') {
                if (open >= MOST_OPEN) {
                    return false;
                }
                open++;
                compared[open] = false;
                hold(OPEN);
                return true;
            }
            boolean isDigit = sign >= '0' && sign <= '9';
            if (!isDigit && !isTrait(sign)) {
                return false;
            }
            emit(isDigit ? sign - '0' : SIGN + sign);
            digits = isDigit ? 1 : MOST_DIGITS;
            wantsThing = false;
            return true;
        }

        private boolean takesJoin(int sign) {
            if (sign >= '0' && sign <= '9') {
                if (digits >= MOST_DIGITS || size < 1) {
                    return false;
                }
                code[size - 1] = 10 * code[size - 1] + sign - '0';
                digits++;
                return true;
            }
            if (sign == ')') {
                if (open < 1) {
                    return false;
                }
                release(1);
                waits--;
                open--;
                digits = MOST_DIGITS;
                return true;
            }
            int binding = bindingOf(SIGN + sign);
            if (binding == 0 || binding == 1 && compared[open]) {
                return false;
            }
            compared[open] = compared[open] || binding == 1;
            release(binding);
            hold(SIGN + sign);
            wantsThing = true;
            return true;
        }

        private static boolean isTrait(int sign) {
            switch (sign) {
                case 'k':
                case 'i':
                case 'o':
                case 'c':
                case 'l':
                case 'e':
                case 's':
                case 'n':
                    return true;
                default:
                    return false;
            }
        }

        /** How strongly a sign binds: 0 for one that joins nothing. */
        private static int bindingOf(int code) {
            switch (code) {
                case SIGN + '<':
                case SIGN + '>':
                case SIGN + '=':
                    return 1;
                case SIGN + '+':
                case SIGN + '-':
                    return 2;
                case SIGN + '*':
                case SIGN + '/':
                    return 3;
                case NEGATE:
                    return 4;
                default:
                    return 0;
            }
        }

        private void emit(int one) {
            if (size < code.length) {
                code[size] = one;
                size++;
            }
        }

        private void hold(int one) {
            if (waits < waiting.length) {
                waiting[waits] = one;
                waits++;
            }
        }

        /** Signs that wait and bind as strongly, or more, come out; an open bracket stops them. */
        private void release(int binding) {
            while (waits > 0 && bindingOf(waiting[waits - 1]) >= binding) {
                waits--;
                emit(waiting[waits]);
            }
        }

        int pullOf(Weave weave, int kind, int i) {
            int top = 0;
            for (int at = 0; at < size; at++) {
                int one = code[at];
                int binding = bindingOf(one);
                if (binding == 0 && top < values.length) {
                    values[top] = one < SIGN ? one : traitOf(one - SIGN, weave, kind, i);
                    top++;
                } else if (one == NEGATE && top >= 1) {
                    values[top - 1] = -values[top - 1];
                } else if (top >= 2) {
                    top--;
                    values[top - 1] = joined(one - SIGN, values[top - 1], values[top]);
                }
            }
            return Math.max(-MOST_PULL, Math.min(MOST_PULL, values[0]));
        }

        private static int traitOf(int sign, Weave weave, int kind, int i) {
            switch (sign) {
                case 'k':
                    return kind;
                case 'i':
                    return i;
                case 'o':
                    return Integer.bitCount(weave.cellsOf(kind, i));
                case 'c':
                    return weave.changesOf(kind, i);
                case 'l':
                    return weave.sizeOf(1 - kind);
                case 'e':
                    return i == 0 || i == weave.sizeOf(kind) - 1 ? 1 : 0;
                case 's':
                    return weave.likesOf(kind, i);
                default:
                    return weave.night % 7;
            }
        }

        private static int joined(int sign, int a, int b) {
            switch (sign) {
                case '<':
                    return a < b ? 1 : 0;
                case '>':
                    return a > b ? 1 : 0;
                case '=':
                    return a == b ? 1 : 0;
                case '+':
                    return a + b;
                case '-':
                    return a - b;
                case '*':
                    return a * b;
                default:
                    return b == 0 ? 0 : a / b;
            }
        }

        /** The thread that goes in a night, or NOTHING. */
        int goesOf(Weave weave) {
            int most = -MOST_PULL - 1;
            int goes = 0;
            for (int kind = PICK; kind <= END; kind++) {
                for (int i = 0; i < weave.sizeOf(kind); i++) {
                    int pull = pullOf(weave, kind, i);
                    if (pull > most) {
                        most = pull;
                        goes = SIDE * kind + i;
                    }
                }
            }
            return weave.sizeOf(goes / SIDE) > 1 ? goes : NOTHING;
        }
    }

    /** Which thread lies above which, and which sets of threads hang together. */
    private static final class Bonds {
        final int[] below = new int[THREADS];
        final int[] above = new int[THREADS];

        // Sets of threads, a bit each: the set's ends tell the number, its picks the bit.
        final long[] holding = new long[1 << SIDE];
        private final long[] marks = new long[1 << SIDE];
        private final int[] sizes = new int[THREADS + 1];
        private long tabled = 0;

        static boolean isIn(long[] sets, int set) {
            int at = set >>> SIDE;
            return at < sets.length && (sets[at] >>> (set & PICK_SET) & 1) != 0;
        }

        private static void mark(long[] sets, int set) {
            int at = set >>> SIDE;
            if (at < sets.length) {
                sets[at] |= 1L << (set & PICK_SET);
            }
        }

        void tie(Weave weave) {
            for (int i = 0; i < SIDE; i++) {
                below[i] = weave.cellsOf(PICK, i) << SIDE;
                above[i] = (weave.cellsOf(PICK, i) ^ weave.fullOf(PICK)) << SIDE;
                below[SIDE + i] = weave.cellsOf(END, i);
                above[SIDE + i] = weave.cellsOf(END, i) ^ weave.fullOf(END);
            }
        }

        void turn(int pick, int end) {
            below[pick] ^= 1 << SIDE + end;
            above[pick] ^= 1 << SIDE + end;
            below[SIDE + end] ^= 1 << pick;
            above[SIDE + end] ^= 1 << pick;
        }

        /** All of a set to which one comes within it, step by step; each turn goes on from one. */
        static int reached(int from, int set, int[] steps) {
            int seen = from;
            int fresh = from;
            for (int turn = 0; turn < THREADS && fresh != 0 && seen != set; turn++) {
                int one = fresh & -fresh;
                int t = Integer.bitCount(one - 1);
                int found = t < steps.length ? steps[t] & set & ~seen : 0;
                seen |= found;
                fresh = fresh ^ one | found;
            }
            return seen;
        }

        boolean areTogether(int set) {
            if (Integer.bitCount(set) == 1) {
                return true;
            }
            if ((set & PICK_SET) == 0 || set >>> SIDE == 0) {
                return false;
            }
            int from = set & -set;
            return reached(from, set, below) == set && reached(from, set, above) == set;
        }

        boolean isTogether(Weave weave) {
            tie(weave);
            return areTogether(weave.all());
        }

        /** Finds all sets that hang together, unless it is known of such a cloth already. */
        void tabulate(Weave weave) {
            long shape = weave.shape();
            if (shape == tabled) {
                return;
            }
            tabled = shape;
            tie(weave);
            Arrays.fill(holding, 0);
            Arrays.fill(sizes, 0);
            int all = weave.all();
            int set = 0;
            for (int turn = 0; turn < ALL_SETS; turn++) {
                if (areTogether(set)) {
                    mark(holding, set);
                    sizes[Integer.bitCount(set)]++;
                }
                set = (set - all) & all;
                if (set == 0) {
                    break;
                }
            }
        }

        int holdingOf(int threads) {
            return threads >= 0 && threads < sizes.length ? sizes[threads] : 0;
        }

        /** The most that can be taken one by one while it hangs together, ahead of it and behind. */
        int longestTaking(int all) {
            if (!isIn(holding, all)) {
                return 0;
            }
            Arrays.fill(marks, 0);
            mark(marks, all);
            int fewest = Integer.bitCount(all);
            int set = all;
            for (int turn = 0; turn < ALL_SETS && set != 0; turn++) {
                if (isIn(marks, set)) {
                    fewest = Math.min(fewest, Integer.bitCount(set));
                    markTakings(set);
                }
                set = set - 1 & all;
            }
            return Integer.bitCount(all) - fewest;
        }

        private void markTakings(int set) {
            for (int t = 0; t < THREADS; t++) {
                int rest = set & ~(1 << t);
                if (rest != set && isIn(holding, rest)) {
                    mark(marks, rest);
                }
            }
        }

        /** The least thread by which he who takes from all wins, or NONE. */
        int winningTake(int all) {
            Arrays.fill(marks, 0);
            int set = 0;
            for (int turn = 0; turn < ALL_SETS && set != all; turn++) {
                if (isIn(holding, set) && leastTake(set) != NONE) {
                    mark(marks, set);
                }
                set = (set - all) & all;
            }
            return leastTake(all);
        }

        private int leastTake(int set) {
            for (int t = 0; t < THREADS; t++) {
                int rest = set & ~(1 << t);
                if (rest != set && isIn(holding, rest) && !isIn(marks, rest)) {
                    return t;
                }
            }
            return NONE;
        }
    }

    /** What is left of a cloth by sets of threads taken out, as shapes. */
    private static final class Cuttings {
        // Twice as many places as there are sets, so that a free one is found soon.
        private static final int PLACES = 1024;

        private final int[] words = new int[SIDE];
        private int endsLeft;
        private final long[] seen = new long[PLACES];

        /** Picks without some of their ends. */
        void narrow(Weave weave, int takenEnds) {
            endsLeft = weave.ends - Integer.bitCount(takenEnds);
            for (int p = 0; p < weave.picks; p++) {
                int word = weave.cellsOf(PICK, p);
                for (int e = weave.ends - 1; e >= 0; e--) {
                    word = (takenEnds >>> e & 1) != 0 ? without(word, e) : word;
                }
                words[p] = word;
            }
        }

        /** The shape of the narrowed cloth without some of its picks. */
        long shapeWithout(Weave weave, int takenPicks) {
            long packed = 0;
            int picksLeft = 0;
            for (int p = weave.picks - 1; p >= 0; p--) {
                if ((takenPicks >>> p & 1) == 0) {
                    packed = packed << SIDE | words[p];
                    picksLeft++;
                }
            }
            return packed << SIDE | endsLeft << 3 | picksLeft;
        }

        void forgetShapes() {
            Arrays.fill(seen, 0);
        }

        boolean isNew(long shape) {
            long mixed = shape ^ shape >>> 10 ^ shape >>> 23 ^ shape >>> 36;
            int place = (int) (mixed & PLACES - 1);
            for (int turn = 0; turn < PLACES; turn++) {
                if (seen[place] == shape) {
                    return false;
                }
                if (seen[place] == 0) {
                    seen[place] = shape;
                    return true;
                }
                place = place + 1 & PLACES - 1;
            }
            return false;
        }
    }

    /** What was told of a thread. */
    private static final class Tales {
        static final int KINDS = 5;

        private final int[] whats = new int[MOST_TOLD];
        private final int[] values = new int[MOST_TOLD];
        int size = 0;

        /** The greatest number that may be told of a kind of tale; below 0 for another kind. */
        static int mostOf(int what) {
            switch (what) {
                case 0:
                case 3:
                    return 1;
                case 1:
                    return 6;
                case 2:
                case 4:
                    return 5;
                default:
                    return NONE;
            }
        }

        void add(int what, int v) {
            if (size < whats.length) {
                whats[size] = what;
                values[size] = v;
                size++;
            }
        }

        /** Those threads of a set of which a tale is so. */
        static int those(int set, int what, int v, Weave weave) {
            int so = 0;
            for (int t = 0; t < THREADS; t++) {
                if ((set >>> t & 1) != 0 && isSo(what, v, weave, t / SIDE, t % SIDE)) {
                    so |= 1 << t;
                }
            }
            return so;
        }

        private static boolean isSo(int what, int v, Weave weave, int kind, int i) {
            switch (what) {
                case 0:
                    return kind == v;
                case 1:
                    return Integer.bitCount(weave.cellsOf(kind, i)) >= v;
                case 2:
                    return weave.changesOf(kind, i) >= v;
                case 3:
                    return weave.isLoose(kind, i) == (v == 1);
                default:
                    return i <= v;
            }
        }

        int fitting(Weave weave) {
            int set = weave.all();
            for (int n = 0; n < size; n++) {
                set = those(set, whats[n], values[n], weave);
            }
            return set;
        }
    }
}
