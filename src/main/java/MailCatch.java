import java.util.Arrays;

/** A man who counts joints and by his count puts a net out and takes it in: see ../shared/DOC.md. */
public final class MailCatch {
    public static final int BAD = -1, STATE = -2, FULL = -3, NONE = -4;

    // What a text tells by single numbers stands in one row, in the order in which rule() is asked for it.
    private static final int JOINTS = 0, ARMS = 1, MARKS = 2, TOWNS = 3, SIGNALS = 4, BRIDGE = 5, SLIP = 6;
    private static final int PACE = 7, OUT = 8, IN = 9, SIGNAL_COST = 10, TORN_COST = 11, HANDS = 12, RULES = 13;
    private static final int[] AT_FIRST = {6, 0, 0, 0, 0, 0, 1, 5, 2, 4, 1, 5, 3};
    // What each may be told or set to; of ARMS, MARKS, TOWNS the most is how many lines there may be.
    private static final int[] LEAST = {2, 0, 0, 0, 0, 1, 0, 1, 1, 2, 0, 0, 1};
    private static final int[] MOST = {10, 3, 3, 5, 1023, 10, 10, 9, 10, 11, 9, 9, 9};

    private static final int TRUE = 0, LIGHT = 1, HEAVY = 2, DOUBLE = 3, LOW = 4;
    private static final int MOST_JOINTS = 10, MOST_ARMS = 3, MOST_MARKS = 3, MOST_TOWNS = 5;
    private static final int MOST_COUNT = 10, MOST_CLEAR = 10, MOST_WORTH = 9, MOST_LETTERS = 99, MOST_MINUTES = 99;
    private static final int TENTHS = 10, TAPE_BYTES = 160, MOST_SEEN = 6;
    private static final int SHEETS = 4, LANES = 3, MOST_CELLS = 40, MOST_READ = 20;
    private static final int NULL = 1, INDEX = 2, CAST = 3, SIZE = 4;

    private final Told now = new Told();
    private final Told firstImage = new Told();
    private final Told secondImage = new Told();
    private int images;
    private final Reader reader = new Reader();
    private final Tape tape = reader.from;
    private int textFault;
    private final Passage passage = new Passage();
    private final Odds odds = new Odds();
    private final Seen seen = new Seen();
    private final Sheets sheets = new Sheets();
    private final int[] lettersAhead = new int[MOST_TOWNS];
    private int readFault;

    public MailCatch() {
    }

    // ---- the text, what there is

    public int feed(int c) {
        if (c < 0 || c > 127) {
            return BAD;
        }
        return tape.add(c) ? tape.length : FULL;
    }

    public int end(int n) {
        if (n < 0 || n > tape.length) {
            return BAD;
        }
        int had = tape.length;
        tape.length = n;
        return had;
    }

    public int text() {
        int lines = 0;
        reader.start();
        while (lines < TAPE_BYTES && reader.readLine()) {
            lines++;
        }
        reader.finish();
        tape.length = 0;
        textFault = reader.fault;
        if (textFault != 0) {
            return -10 - reader.faultPlace;
        }
        now.take(reader.draft);
        seen.has = 0;
        images = 0;
        return lines;
    }

    public int fault() {
        return textFault;
    }

    public int rule(int what) {
        return what < 0 || what >= RULES ? BAD : now.value(what);
    }

    public int arm(int i, int what) {
        if (!isArm(i)) {
            return BAD;
        }
        switch (what) {
            case 0: return at(now.armKind, i);
            case 1: return at(now.armJoint, i);
            case 2: return at(now.armWorth, i);
            case 3: return now.holdsOf(i, now.value(PACE));
            default: return BAD;
        }
    }

    public int mark(int m, int what) {
        if (!isMark(m) || !isPart(what)) {
            return BAD;
        }
        return what == 0 ? at(now.markJoint, m) : at(now.markClear, m);
    }

    public int town(int t, int what) {
        if (!isTown(t) || !isPart(what)) {
            return BAD;
        }
        return what == 0 ? at(now.townLetters, t) : at(now.townWorth, t);
    }

    // ---- what is changed

    public int set(int what, int v) {
        int rule = what == 0 ? SLIP : what == 1 ? HANDS : what == 2 ? PACE : NONE;
        if (rule == NONE || !isWithin(rule, v)) {
            return BAD;
        }
        int was = now.value(rule);
        now.become(rule, v);
        return was;
    }

    public int net(int out, int in) {
        if (!isWithin(OUT, out) || !isWithin(IN, in) || in <= out) {
            return BAD;
        }
        int was = now.value(OUT);
        now.become(OUT, out);
        now.become(IN, in);
        return was;
    }

    public int signal(int j, boolean is) {
        if (!isJoint(j)) {
            return BAD;
        }
        int signals = now.value(SIGNALS);
        int bit = 1 << (j - 1);
        now.become(SIGNALS, is ? signals | bit : signals & ~bit);
        return (signals & bit) != 0 ? 1 : 0;
    }

    public int bridge(int j) {
        if (j != 0 && !isJoint(j)) {
            return BAD;
        }
        int was = now.value(BRIDGE);
        now.become(BRIDGE, j);
        return was;
    }

    public int clear(int m, int v) {
        if (!isMark(m) || v < 0 || v > MOST_CLEAR) {
            return BAD;
        }
        int was = at(now.markClear, m);
        put(now.markClear, m, v);
        return was;
    }

    public int hang(int i, int kind) {
        if (!isArm(i) || kind < TRUE || kind > LOW) {
            return BAD;
        }
        int was = at(now.armKind, i);
        put(now.armKind, i, kind);
        return was;
    }

    public int post(int t, int n) {
        int has = postedTo(now.townLetters, t, n);
        if (has >= 0) {
            put(now.townLetters, t, has);
        }
        return has;
    }

    // ---- a night

    public int night(int misses, int notices, int what) {
        if (!areJoints(misses) || !areMarks(notices) || !isNightPart(what)) {
            return BAD;
        }
        passage.go(now, misses, notices);
        return passage.answer(what);
    }

    public int counts(int misses, int notices, int j) {
        if (!areJoints(misses) || !areMarks(notices) || j != 0 && !isJoint(j)) {
            return BAD;
        }
        int count = 0;
        for (int passed = 1; passed <= j; passed++) {
            count = now.countBehind(passed, count, misses, notices);
        }
        return count;
    }

    // ---- by odds

    public long where(int j, int c, int what) {
        if (j != 0 && !isJoint(j) || c < 0 || c > MOST_COUNT || !isPart(what)) {
            return BAD;
        }
        odds.weighByOdds(now, now.value(SLIP), NONE);
        odds.passCounting(j);
        return part(odds.ofCount(j, c), odds.whole(), what);
    }

    public long goes(int j, int what) {
        if (!isJoint(j) || !isPart(what)) {
            return BAD;
        }
        passByOdds();
        return part(at(odds.goesAt, j), odds.whole(), what);
    }

    public long isOut(int j, int what) {
        if (!isJoint(j) || !isPart(what)) {
            return BAD;
        }
        passByOdds();
        return part(at(odds.outAt, j), odds.whole(), what);
    }

    public long had(int i, int what) {
        if (!isArm(i) || !isPart(what)) {
            return BAD;
        }
        passByOdds();
        return part(metBy(i) * now.holdsOf(i, now.value(PACE)), TENTHS * odds.whole(), what);
    }

    public long hits(int what) {
        if (!isPart(what)) {
            return BAD;
        }
        passByOdds();
        return part(hitByOdds(), odds.whole(), what);
    }

    public long torn(int what) {
        if (!isPart(what)) {
            return BAD;
        }
        passByOdds();
        return part(tornByOdds(), odds.whole(), what);
    }

    public long worth(int what) {
        if (!isPart(what)) {
            return BAD;
        }
        passByOdds();
        return part(worthByOdds(), TENTHS * odds.whole(), what);
    }

    // ---- what to do

    public long best(int what) {
        if (what < 0 || what > 2) {
            return BAD;
        }
        odds.weighByOdds(now, now.value(SLIP), NONE);
        int bestNet = NONE;
        long bestWorth = 0;
        for (int out = LEAST[OUT]; out <= MOST[OUT]; out++) {
            for (int in = out + 1; in <= MOST[IN]; in++) {
                odds.passWithNet(out, in, now.value(BRIDGE));
                long worth = worthByOdds();
                if (bestNet == NONE || worth > bestWorth) {
                    bestNet = 100 * out + in;
                    bestWorth = worth;
                }
            }
        }
        return what == 0 ? bestNet : part(bestWorth, TENTHS * odds.whole(), what - 1);
    }

    public int fog(int i, int k) {
        if (!isArm(i) || k < 1 || k > TENTHS) {
            return BAD;
        }
        for (int clear = 0; clear <= MOST_CLEAR; clear++) {
            if (isHadBy(i, k, now.value(SLIP), clear)) {
                return clear;
            }
        }
        return NONE;
    }

    public int fast(int i, int k) {
        if (!isArm(i) || k < 1 || k > TENTHS) {
            return BAD;
        }
        passByOdds();
        for (int pace = MOST[PACE]; pace >= LEAST[PACE]; pace--) {
            if (metBy(i) * now.holdsOf(i, pace) >= k * odds.whole()) {
                return pace;
            }
        }
        return NONE;
    }

    public int slack(int i, int k) {
        if (!isArm(i) || k < 1 || k > TENTHS) {
            return BAD;
        }
        for (int slip = MOST[SLIP]; slip >= LEAST[SLIP]; slip--) {
            if (isHadBy(i, k, slip, NONE)) {
                return slip;
            }
        }
        return NONE;
    }

    // ---- letters

    public int sort(int t, int what) {
        if (t < 0 || t > MOST_MINUTES || !isPart(what)) {
            return BAD;
        }
        int bestSet = 0;
        int bestSum = 0;
        int sets = 1 << now.value(TOWNS);
        for (int set = 0; set < sets; set++) {
            int sum = now.lettersWorth(set);
            if (sum > bestSum && now.minutesOf(set, now.value(HANDS)) <= t) {
                bestSet = set;
                bestSum = sum;
            }
        }
        return what == 0 ? bestSum : bestSet;
    }

    public int minutes(int set) {
        return areTowns(set) ? now.minutesOf(set, now.value(HANDS)) : BAD;
    }

    public int hands(int t) {
        if (t < 0 || t > MOST_MINUTES) {
            return BAD;
        }
        int all = (1 << now.value(TOWNS)) - 1;
        for (int hands = LEAST[HANDS]; hands <= MOST[HANDS]; hands++) {
            if (now.minutesOf(all, hands) <= t) {
                return hands;
            }
        }
        return NONE;
    }

    // ---- what he missed

    public int see(int j, int c) {
        if (!isJoint(j) || c < 0 || c > MOST_COUNT) {
            return BAD;
        }
        return seen.add(j, c) ? seen.has : FULL;
    }

    public int forget(int n) {
        if (n < 0 || n > seen.has) {
            return BAD;
        }
        int had = seen.has;
        seen.has = n;
        return had;
    }

    public int fits(int what) {
        if (what < 0 || what > 4) {
            return BAD;
        }
        odds.weighAlike(now);
        int ways = (int) odds.passAsSeen(seen);
        if (what == 0) {
            return ways;
        }
        if (ways == 0) {
            return NONE;
        }
        boolean byAll = what == 1 || what == 3;
        return what <= 2 ? jointsMissed(byAll) : marksNoticed(byAll);
    }

    public long likely(int what) {
        if (!isPart(what)) {
            return BAD;
        }
        odds.weighByOdds(now, now.value(SLIP), NONE);
        return part(odds.passAsSeen(seen), odds.whole(), what);
    }

    // ---- by a seed

    public int drift(int seed, int what) {
        if (!isNightPart(what)) {
            return BAD;
        }
        int drawn = seed;
        int misses = 0;
        for (int j = 1; j <= now.value(JOINTS); j++) {
            drawn = nextSeed(drawn);
            if (figureOf(drawn) < now.value(SLIP)) {
                misses |= 1 << (j - 1);
            }
        }
        int notices = 0;
        for (int m = 0; m < now.value(MARKS); m++) {
            drawn = nextSeed(drawn);
            if (figureOf(drawn) < at(now.markClear, m)) {
                notices |= 1 << m;
            }
        }
        passage.go(now, misses, notices);
        return passage.answer(what);
    }

    // ---- images, sheets

    public int keep(int k) {
        if (!isImage(k)) {
            return BAD;
        }
        int was = images >> k & 1;
        imageOf(k).take(now);
        images |= 1 << k;
        return was;
    }

    public int back(int k) {
        if (!isImage(k)) {
            return BAD;
        }
        if ((images >> k & 1) == 0) {
            return STATE;
        }
        now.take(imageOf(k));
        return now.value(JOINTS);
    }

    public int sheet(int k, int lane, int n) {
        if (!isSheet(k) || !isLane(lane) || n > MOST_CELLS) {
            return BAD;
        }
        if (n < 0) {
            return -10 - SIZE;
        }
        sheets.renew(k, lane, n);
        return 1;
    }

    public int lay(int k, int i, int v) {
        if (!isSheet(k)) {
            return BAD;
        }
        int fault = sheets.faultOfCell(k, i);
        if (fault != 0) {
            return -10 - fault;
        }
        sheets.write(k, i, v);
        return 1;
    }

    public int read(int k, int lane, int f, int n) {
        if (!isSheet(k) || !isLane(lane) || n < 0 || n > MOST_READ) {
            return BAD;
        }
        int fault = n == 0 ? 0 : sheets.faultOfLane(k, lane);
        int came = 0;
        System.arraycopy(now.townLetters, 0, lettersAhead, 0, MOST_TOWNS);
        for (; came < n && fault == 0; came++) {
            int cell = f + 2 * came;
            fault = sheets.faultOfPair(k, cell);
            if (fault != 0) {
                break;
            }
            int t = sheets.cell(k, cell);
            int has = postedTo(lettersAhead, t, sheets.cell(k, cell + 1));
            if (has < 0) {
                return -20 - came;
            }
            put(lettersAhead, t, has);
        }
        System.arraycopy(lettersAhead, 0, now.townLetters, 0, MOST_TOWNS);
        readFault = fault;
        return came;
    }

    public int split() {
        return readFault;
    }

    public int count(int what) {
        switch (what) {
            case 0: return seen.has;
            case 1: return Integer.bitCount(images);
            case 2: return tape.length;
            case 3: return sheets.cellsOf(0);
            case 4: return now.allLetters();
            case 5: return Integer.bitCount(now.value(SIGNALS));
            default: return BAD;
        }
    }

    // ---- what a number may be

    private static boolean isPart(int what) {
        return what == 0 || what == 1;
    }

    private static boolean isNightPart(int what) {
        return what >= 0 && what <= 5;
    }

    private static boolean isWithin(int rule, int v) {
        return v >= at(LEAST, rule) && v <= at(MOST, rule);
    }

    private boolean isJoint(int j) {
        return j >= 1 && j <= now.value(JOINTS);
    }

    private boolean isArm(int i) {
        return i >= 0 && i < now.value(ARMS);
    }

    private boolean isMark(int m) {
        return m >= 0 && m < now.value(MARKS);
    }

    private boolean isTown(int t) {
        return t >= 0 && t < now.value(TOWNS);
    }

    private boolean areJoints(int bits) {
        return bits >= 0 && bits < 1 << now.value(JOINTS);
    }

    private boolean areMarks(int bits) {
        return bits >= 0 && bits < 1 << now.value(MARKS);
    }

    private boolean areTowns(int bits) {
        return bits >= 0 && bits < 1 << now.value(TOWNS);
    }

    private static boolean isImage(int k) {
        return k == 0 || k == 1;
    }

    private static boolean isSheet(int k) {
        return k >= 0 && k < SHEETS;
    }

    private static boolean isLane(int lane) {
        return lane >= 0 && lane < LANES;
    }

    // ---- what the calls share

    private Told imageOf(int k) {
        return k == 0 ? firstImage : secondImage;
    }

    /** How many LETTERS a TOWN would have with n more of them, or why it can not have them. */
    private int postedTo(int[] letters, int t, int n) {
        if (!isTown(t) || n < 0 || n > MOST_LETTERS) {
            return BAD;
        }
        int has = at(letters, t) + n;
        return has > MOST_LETTERS ? FULL : has;
    }

    private void passByOdds() {
        odds.weighByOdds(now, now.value(SLIP), NONE);
        odds.passWithNet(now.value(OUT), now.value(IN), now.value(BRIDGE));
    }

    private long metBy(int i) {
        return at(odds.outAt, at(now.armJoint, i));
    }

    private boolean isHadBy(int i, int tenths, int slip, int clear) {
        odds.weighByOdds(now, slip, clear);
        odds.passWithNet(now.value(OUT), now.value(IN), now.value(BRIDGE));
        return metBy(i) * now.holdsOf(i, now.value(PACE)) >= tenths * odds.whole();
    }

    private long hitByOdds() {
        long hit = 0;
        for (int j = 1; j <= now.value(JOINTS); j++) {
            if (now.isSignalAt(j)) {
                hit += at(odds.outAt, j);
            }
        }
        return hit;
    }

    private long tornByOdds() {
        return at(odds.outAt, now.value(BRIDGE));
    }

    /** In tenths of the odds' whole, for HOLDS are tenths. */
    private long worthByOdds() {
        long worth = 0;
        for (int i = 0; i < now.value(ARMS); i++) {
            worth += metBy(i) * now.holdsOf(i, now.value(PACE)) * at(now.armWorth, i);
        }
        long cost = hitByOdds() * now.value(SIGNAL_COST) + tornByOdds() * now.value(TORN_COST);
        return worth - TENTHS * cost;
    }

    /** What he did by all that FIT is that of which the contrary fits by none. */
    private int jointsMissed(boolean byAll) {
        int bits = 0;
        for (int j = 1; j <= now.value(JOINTS); j++) {
            odds.weighAlike(now);
            odds.forceMiss(j, !byAll);
            if (odds.passAsSeen(seen) == 0) {
                bits |= 1 << (j - 1);
            }
        }
        return bits;
    }

    private int marksNoticed(boolean byAll) {
        int bits = 0;
        for (int m = 0; m < now.value(MARKS); m++) {
            odds.weighAlike(now);
            odds.forceNotice(at(now.markJoint, m), !byAll);
            if (odds.passAsSeen(seen) == 0) {
                bits |= 1 << m;
            }
        }
        return bits;
    }

    private static int nextSeed(int seed) {
        return seed * 1103515245 + 12345;
    }

    private static int figureOf(int seed) {
        return (seed >> 16 & 32767) % 10;
    }

    /** The numerator (0) or the denominator (1) in lowest terms. */
    private static long part(long numerator, long denominator, int what) {
        long shared = Math.max(1, greatestShared(Math.abs(numerator), denominator));
        return what == 0 ? numerator / shared : denominator / shared;
    }

    private static long greatestShared(long a, long b) {
        long big = a;
        long small = b;
        for (int step = 0; step < 100 && small != 0; step++) {
            long left = big % small;
            big = small;
            small = left;
        }
        return big;
    }

    // ---- rows whose index may be anything

    private static int at(int[] row, int i) {
        return i >= 0 && i < row.length ? row[i] : 0;
    }

    private static void put(int[] row, int i, int v) {
        if (i >= 0 && i < row.length) {
            row[i] = v;
        }
    }

    private static long at(long[] row, int i) {
        return i >= 0 && i < row.length ? row[i] : 0;
    }

    private static void put(long[] row, int i, long v) {
        if (i >= 0 && i < row.length) {
            row[i] = v;
        }
    }

    /** All that a text tells. */
    private static final class Told {
        private final int[] rules = new int[RULES];
        private final int[] armKind = new int[MOST_ARMS];
        private final int[] armJoint = new int[MOST_ARMS];
        private final int[] armWorth = new int[MOST_ARMS];
        private final int[] markJoint = new int[MOST_MARKS];
        private final int[] markClear = new int[MOST_MARKS];
        private final int[] townLetters = new int[MOST_TOWNS];
        private final int[] townWorth = new int[MOST_TOWNS];

        private Told() {
            restart();
        }

        /** The rows of arms, marks, towns may stay: how many of them are told stands in the rules. */
        private void restart() {
            System.arraycopy(AT_FIRST, 0, rules, 0, RULES);
        }

        private void take(Told other) {
            System.arraycopy(other.rules, 0, rules, 0, RULES);
            System.arraycopy(other.armKind, 0, armKind, 0, MOST_ARMS);
            System.arraycopy(other.armJoint, 0, armJoint, 0, MOST_ARMS);
            System.arraycopy(other.armWorth, 0, armWorth, 0, MOST_ARMS);
            System.arraycopy(other.markJoint, 0, markJoint, 0, MOST_MARKS);
            System.arraycopy(other.markClear, 0, markClear, 0, MOST_MARKS);
            System.arraycopy(other.townLetters, 0, townLetters, 0, MOST_TOWNS);
            System.arraycopy(other.townWorth, 0, townWorth, 0, MOST_TOWNS);
        }

        private int value(int rule) {
            return at(rules, rule);
        }

        private void become(int rule, int v) {
            put(rules, rule, v);
        }

        private int holdsOf(int i, int pace) {
            int kind = at(armKind, i);
            int tenths = TENTHS - pace / 2;
            if ((kind == LIGHT || kind == LOW) && pace >= 5) {
                tenths -= 3;
            }
            if (kind == HEAVY || kind == DOUBLE) {
                tenths -= pace / 3;
            }
            if (kind == DOUBLE || kind == LOW) {
                tenths -= 1;
            }
            return Math.max(0, tenths);
        }

        private int armAt(int j) {
            for (int i = 0; i < value(ARMS); i++) {
                if (at(armJoint, i) == j) {
                    return i;
                }
            }
            return NONE;
        }

        private int markAt(int j) {
            for (int m = 0; m < value(MARKS); m++) {
                if (at(markJoint, m) == j) {
                    return m;
                }
            }
            return NONE;
        }

        private boolean isSignalAt(int j) {
            return j >= 1 && (value(SIGNALS) >> (j - 1) & 1) == 1;
        }

        private int countBehind(int j, int countAhead, int misses, int notices) {
            int m = markAt(j);
            if (m != NONE && (notices >> m & 1) == 1) {
                return j;
            }
            return (misses >> (j - 1) & 1) == 1 ? countAhead : countAhead + 1;
        }

        private int minutesOf(int set, int hands) {
            if (hands < 1) {
                return 0;
            }
            int sum = 0;
            for (int t = 0; t < value(TOWNS); t++) {
                if ((set >> t & 1) == 1) {
                    sum += (at(townLetters, t) + hands - 1) / hands;
                }
            }
            return sum;
        }

        private int lettersWorth(int set) {
            int sum = 0;
            for (int t = 0; t < value(TOWNS); t++) {
                if ((set >> t & 1) == 1) {
                    sum += at(townLetters, t) * at(townWorth, t);
                }
            }
            return sum;
        }

        private int allLetters() {
            int sum = 0;
            for (int t = 0; t < value(TOWNS); t++) {
                sum += at(townLetters, t);
            }
            return sum;
        }
    }

    /** THE TAPE, and the TOKEN that was read of it last. */
    private static final class Tape {
        private static final int NO_TOKEN = 0, NAME = 1, NUMBER = 2, SIGN = 3, END = 4;

        private final byte[] bytes = new byte[TAPE_BYTES];
        private int length;
        private int next;
        private int kind;
        private int place;

        private boolean add(int c) {
            if (length < 0 || length >= bytes.length) {
                return false;
            }
            bytes[length] = (byte) c;
            length++;
            return true;
        }

        /** Behind the end there is no byte: -1 is none of those that come. */
        private int byteAt(int p) {
            return p >= 0 && p < length && p < bytes.length ? bytes[p] : -1;
        }

        private void readToken() {
            while (next < length && byteAt(next) == ' ') {
                next++;
            }
            place = next;
            kind = next < length ? kindOf(byteAt(next)) : END;
            // A SIGN stands alone: two of them side by side are two TOKENS.
            while (next < length && kindOf(byteAt(next)) == kind && (kind != SIGN || next == place)) {
                next++;
            }
            if (kind == NUMBER && next - place > 2) {
                kind = NO_TOKEN;
            }
        }

        private int numberRead() {
            int first = byteAt(place) - '0';
            return next - place == 1 ? first : 10 * first + byteAt(place + 1) - '0';
        }

        private static int kindOf(int c) {
            if (c >= 'a' && c <= 'z') {
                return NAME;
            }
            if (c >= '0' && c <= '9') {
                return NUMBER;
            }
            return c == ';' ? SIGN : NO_TOKEN;
        }

        private boolean isName(String name) {
            if (kind != NAME || next - place != name.length()) {
                return false;
            }
            for (int i = 0; i < name.length(); i++) {
                if (byteAt(place + i) != name.charAt(i)) {
                    return false;
                }
            }
            return true;
        }
    }

    /** Reads a text into a draft, up to its first FAULT. */
    private static final class Reader {
        private static final int REFUSED = -1;
        // Bits by the rule that a line tells: those whose lines may stand but once.
        private static final int ONCE =
            1 << JOINTS | 1 << BRIDGE | 1 << SLIP | 1 << PACE | 1 << OUT | 1 << SIGNAL_COST | 1 << HANDS;

        private final Tape from = new Tape();
        private final Told draft = new Told();
        private int toldLines;
        private int fault;
        private int faultPlace;

        private void start() {
            from.next = 0;
            draft.restart();
            toldLines = 0;
            fault = 0;
        }

        private void finish() {
            if (fault == 0 && isJointMissing()) {
                fault = 6;
                faultPlace = from.length;
            }
        }

        private boolean readLine() {
            if (!takeToken() || from.kind == Tape.END) {
                return false;
            }
            int line = lineNamed();
            if (line == NONE) {
                return refuse(2);
            }
            if ((ONCE & toldLines & 1 << line) != 0) {
                return refuse(4);
            }
            if (isRowOf(line) && draft.value(line) >= at(MOST, line)) {
                return refuse(5);
            }
            toldLines |= 1 << line;
            switch (line) {
                case ARMS: return readArm() && takeSign();
                case MARKS: return readMark() && takeSign();
                case TOWNS: return readTown() && takeSign();
                case SIGNALS: return readSignal() && takeSign();
                case OUT: return readRule(OUT) && readRule(IN) && takeSign();
                case SIGNAL_COST: return readRule(SIGNAL_COST) && readRule(TORN_COST) && takeSign();
                default: return readRule(line) && takeSign();
            }
        }

        private boolean readRule(int rule) {
            int least = rule == IN ? draft.value(OUT) + 1 : at(LEAST, rule);
            int v = takeNumber(least, at(MOST, rule));
            if (v == REFUSED) {
                return false;
            }
            draft.become(rule, v);
            return true;
        }

        private boolean readArm() {
            if (!takeToken()) {
                return false;
            }
            int kind = kindNamed();
            if (kind == NONE) {
                return refuse(2);
            }
            int j = takeNumber(1, MOST_JOINTS);
            if (j == REFUSED) {
                return false;
            }
            if (draft.armAt(j) != NONE) {
                return refuse(4);
            }
            int worth = takeNumber(0, MOST_WORTH);
            if (worth == REFUSED) {
                return false;
            }
            int i = draft.value(ARMS);
            put(draft.armKind, i, kind);
            put(draft.armJoint, i, j);
            put(draft.armWorth, i, worth);
            draft.become(ARMS, i + 1);
            return true;
        }

        private boolean readMark() {
            int j = takeNumber(1, MOST_JOINTS);
            if (j == REFUSED) {
                return false;
            }
            if (draft.markAt(j) != NONE) {
                return refuse(4);
            }
            int clear = takeNumber(0, MOST_CLEAR);
            if (clear == REFUSED) {
                return false;
            }
            int m = draft.value(MARKS);
            put(draft.markJoint, m, j);
            put(draft.markClear, m, clear);
            draft.become(MARKS, m + 1);
            return true;
        }

        private boolean readTown() {
            int letters = takeNumber(0, MOST_LETTERS);
            if (letters == REFUSED) {
                return false;
            }
            int worth = takeNumber(0, MOST_WORTH);
            if (worth == REFUSED) {
                return false;
            }
            int t = draft.value(TOWNS);
            put(draft.townLetters, t, letters);
            put(draft.townWorth, t, worth);
            draft.become(TOWNS, t + 1);
            return true;
        }

        private boolean readSignal() {
            int j = takeNumber(1, MOST_JOINTS);
            if (j == REFUSED) {
                return false;
            }
            if (draft.isSignalAt(j)) {
                return refuse(4);
            }
            draft.become(SIGNALS, draft.value(SIGNALS) | 1 << (j - 1));
            return true;
        }

        private boolean takeToken() {
            from.readToken();
            return from.kind != Tape.NO_TOKEN || refuse(1);
        }

        private boolean takeSign() {
            return takeToken() && (from.kind == Tape.SIGN || refuse(2));
        }

        private int takeNumber(int least, int most) {
            if (!takeToken()) {
                return REFUSED;
            }
            if (from.kind != Tape.NUMBER) {
                refuse(2);
                return REFUSED;
            }
            int v = from.numberRead();
            if (v < least || v > most) {
                refuse(3);
                return REFUSED;
            }
            return v;
        }

        private boolean refuse(int why) {
            fault = why;
            faultPlace = from.place;
            return false;
        }

        private static boolean isRowOf(int line) {
            return line == ARMS || line == MARKS || line == TOWNS;
        }

        private int lineNamed() {
            return from.isName("joints") ? JOINTS
                : from.isName("arm") ? ARMS
                : from.isName("mark") ? MARKS
                : from.isName("town") ? TOWNS
                : from.isName("signal") ? SIGNALS
                : from.isName("bridge") ? BRIDGE
                : from.isName("slip") ? SLIP
                : from.isName("pace") ? PACE
                : from.isName("net") ? OUT
                : from.isName("cost") ? SIGNAL_COST
                : from.isName("hands") ? HANDS
                : NONE;
        }

        private int kindNamed() {
            return from.isName("true") ? TRUE
                : from.isName("light") ? LIGHT
                : from.isName("heavy") ? HEAVY
                : from.isName("double") ? DOUBLE
                : from.isName("low") ? LOW
                : NONE;
        }

        private boolean isJointMissing() {
            int joints = draft.value(JOINTS);
            if (draft.value(BRIDGE) > joints || draft.value(SIGNALS) >> joints != 0) {
                return true;
            }
            for (int i = 0; i < draft.value(ARMS); i++) {
                if (at(draft.armJoint, i) > joints) {
                    return true;
                }
            }
            for (int m = 0; m < draft.value(MARKS); m++) {
                if (at(draft.markJoint, m) > joints) {
                    return true;
                }
            }
            return false;
        }
    }

    /** A NIGHT of which all is known. */
    private static final class Passage {
        private int wentOut;
        private int wentIn;
        private int met;
        private int hit;
        private int torn;
        private int counted;

        private void go(Told told, int misses, int notices) {
            wentOut = NONE;
            wentIn = NONE;
            met = 0;
            hit = 0;
            torn = 0;
            counted = 0;
            boolean hangsOut = false;
            for (int j = 1; j <= told.value(JOINTS); j++) {
                counted = told.countBehind(j, counted, misses, notices);
                if (wentOut == NONE && counted >= told.value(OUT)) {
                    wentOut = j;
                    hangsOut = true;
                } else if (hangsOut && counted >= told.value(IN)) {
                    wentIn = j;
                    hangsOut = false;
                }
                if (hangsOut) {
                    meet(told, j);
                    hangsOut = torn == 0;
                }
            }
        }

        private void meet(Told told, int j) {
            int i = told.armAt(j);
            if (i != NONE) {
                met |= 1 << i;
            }
            if (told.isSignalAt(j)) {
                hit |= 1 << (j - 1);
            }
            if (told.value(BRIDGE) == j) {
                torn = 1;
            }
        }

        private int answer(int what) {
            switch (what) {
                case 0: return wentOut;
                case 1: return wentIn;
                case 2: return met;
                case 3: return hit;
                case 4: return torn;
                case 5: return counted;
                default: return BAD;
            }
        }
    }

    /**
     * All NIGHTS at once, by COUNT: a row has at each COUNT the sum of the weights of the NIGHTS that have it.
     * Weights are whole numbers, of a NIGHT the product over its JOINTS and MARKS.
     */
    private static final class Odds {
        private static final int ROW = MOST_JOINTS + 1;

        private int joints;
        private final long[] missing = new long[ROW];
        private final long[] hearing = new long[ROW];
        private final long[] noticing = new long[ROW];
        private final long[] overlooking = new long[ROW];
        // By JOINT: what the weights behind it come to, so that all sums are parts of one whole.
        private final long[] behind = new long[ROW];
        private final long[] waiting = new long[ROW];
        private final long[] hanging = new long[ROW];
        private final long[] goesAt = new long[ROW];
        private final long[] outAt = new long[ROW];

        /** A clear that is NONE leaves each MARK its own. */
        private void weighByOdds(Told told, int slip, int clear) {
            joints = Math.min(told.value(JOINTS), MOST_JOINTS);
            for (int j = 1; j <= joints; j++) {
                int m = told.markAt(j);
                int tenths = clear == NONE ? at(told.markClear, m) : clear;
                missing[j] = slip;
                hearing[j] = TENTHS - slip;
                noticing[j] = m == NONE ? 0 : tenths;
                overlooking[j] = m == NONE ? 1 : TENTHS - tenths;
            }
            sumBehind();
        }

        /** Each NIGHT weighs 1. */
        private void weighAlike(Told told) {
            joints = Math.min(told.value(JOINTS), MOST_JOINTS);
            for (int j = 1; j <= joints; j++) {
                missing[j] = 1;
                hearing[j] = 1;
                noticing[j] = told.markAt(j) == NONE ? 0 : 1;
                overlooking[j] = 1;
            }
            sumBehind();
        }

        private void forceMiss(int j, boolean is) {
            put(missing, j, is ? 1 : 0);
            put(hearing, j, is ? 0 : 1);
        }

        private void forceNotice(int j, boolean is) {
            put(noticing, j, is ? 1 : 0);
            put(overlooking, j, is ? 0 : 1);
        }

        private void sumBehind() {
            put(behind, joints, 1);
            for (int j = joints; j >= 1; j--) {
                long here = (missing[j] + hearing[j]) * (noticing[j] + overlooking[j]);
                behind[j - 1] = behind[j] * here;
            }
        }

        private long whole() {
            return behind[0];
        }

        private void start() {
            Arrays.fill(waiting, 0);
            Arrays.fill(hanging, 0);
            waiting[0] = 1;
        }

        /** From the highest COUNT down, for what passes comes to the same COUNT or to a higher one. */
        private void passJoint(long[] row, int j) {
            if (j < 1 || j >= ROW || row.length < ROW) {
                return;
            }
            for (int c = j - 1; c >= 0; c--) {
                long weight = row[c];
                if (weight != 0) {
                    long overlooked = weight * overlooking[j];
                    row[c] = overlooked * missing[j];
                    row[c + 1] += overlooked * hearing[j];
                    row[j] += weight * noticing[j] * (missing[j] + hearing[j]);
                }
            }
        }

        private void passCounting(int last) {
            start();
            for (int j = 1; j <= last && j <= joints; j++) {
                passJoint(waiting, j);
            }
        }

        private long ofCount(int j, int c) {
            return at(waiting, c) * at(behind, j);
        }

        private long passAsSeen(Seen seen) {
            start();
            for (int j = 1; j <= joints; j++) {
                passJoint(waiting, j);
                seen.leaveIn(waiting, j);
            }
            return sumOf(waiting);
        }

        private void passWithNet(int out, int in, int bridge) {
            start();
            for (int j = 1; j <= joints; j++) {
                passJoint(waiting, j);
                passJoint(hanging, j);
                // In before out: one that goes out here does not come in here.
                takeIn(in);
                put(goesAt, j, putOut(out) * at(behind, j));
                put(outAt, j, sumOf(hanging) * at(behind, j));
                if (j == bridge) {
                    Arrays.fill(hanging, 0);
                }
            }
        }

        private void takeIn(int in) {
            for (int c = Math.max(in, 0); c < hanging.length; c++) {
                hanging[c] = 0;
            }
        }

        private long putOut(int out) {
            long went = 0;
            for (int c = Math.max(out, 0); c < waiting.length && c < hanging.length; c++) {
                went += waiting[c];
                hanging[c] += waiting[c];
                waiting[c] = 0;
            }
            return went;
        }

        private static long sumOf(long[] row) {
            long sum = 0;
            for (int c = 0; c < row.length; c++) {
                sum += row[c];
            }
            return sum;
        }
    }

    /** What was SEEN: at a JOINT a COUNT. */
    private static final class Seen {
        private final int[] joint = new int[MOST_SEEN];
        private final int[] counted = new int[MOST_SEEN];
        private int has;

        private boolean add(int j, int c) {
            if (has >= MOST_SEEN) {
                return false;
            }
            put(joint, has, j);
            put(counted, has, c);
            has++;
            return true;
        }

        private void leaveIn(long[] row, int j) {
            for (int i = 0; i < has; i++) {
                if (at(joint, i) == j) {
                    leaveOnly(row, at(counted, i));
                }
            }
        }

        private static void leaveOnly(long[] row, int count) {
            for (int c = 0; c < row.length; c++) {
                if (c != count) {
                    row[c] = 0;
                }
            }
        }
    }

    /** All SHEETS in one row of CELLS, so that none is made anew. */
    private static final class Sheets {
        private final int[] made = new int[SHEETS];
        private final int[] lanes = new int[SHEETS];
        private final int[] sizes = new int[SHEETS];
        private final int[] cells = new int[SHEETS * MOST_CELLS];

        private void renew(int k, int lane, int n) {
            put(made, k, 1);
            put(lanes, k, lane);
            put(sizes, k, n);
            for (int i = 0; i < MOST_CELLS; i++) {
                put(cells, k * MOST_CELLS + i, 0);
            }
        }

        private int cellsOf(int k) {
            return at(made, k) == 1 ? at(sizes, k) : NONE;
        }

        private int faultOfCell(int k, int i) {
            if (at(made, k) == 0) {
                return NULL;
            }
            return i < 0 || i >= at(sizes, k) ? INDEX : 0;
        }

        private int faultOfLane(int k, int lane) {
            if (at(made, k) == 0) {
                return NULL;
            }
            return at(lanes, k) != lane ? CAST : 0;
        }

        private int faultOfPair(int k, int i) {
            int fault = faultOfCell(k, i);
            return fault != 0 ? fault : faultOfCell(k, i + 1);
        }

        private void write(int k, int i, int v) {
            int lane = at(lanes, k);
            put(cells, k * MOST_CELLS + i, lane == 0 ? (byte) v : lane == 1 ? (short) v : v);
        }

        private int cell(int k, int i) {
            return at(cells, k * MOST_CELLS + i);
        }
    }
}
