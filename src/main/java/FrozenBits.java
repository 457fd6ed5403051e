/** Bits made better and worse: mixed two and two, frozen where they are bad, and told from measures. */
public final class FrozenBits {
    public static final int UNKNOWN = -1, OUTSIDE = -2, STATE = -3, NONE = -6;
    public static final int GONE = -1000000;

    private static final int MOST_DEEP = 4;
    private static final int MOST_PLACES = 16;
    private static final int LEAST_OF = 2;
    private static final int MOST_OF = 10;
    private static final int MOST_MEASURE = 99;
    private static final int MOST_KEPT = 8;
    private static final int CHECKS = 3;
    private static final int IMAGES = 2;
    private static final int FIRST_CHECK_COUNT = 10;

    /** Euclid needs fewer than 80 turns for numbers up to 10 to the power of 16. */
    private static final int MOST_TURNS = 100;

    /** At level l PLACES stand in pairs that are 2 to the power of l apart: the FIRST one of each pair. */
    private static final int[] FIRST_OF_PAIRS = {0x5555, 0x3333, 0x0f0f, 0x00ff};

    private final Facts now;
    private final Facts firstImage;
    private final Facts secondImage;
    private int imagesKept;

    /** Room that calls use again, so that no call makes an object. */
    private final int[] halves;
    private final FinedRows told;
    private final FinedRows grown;

    public FrozenBits() {
        now = new Facts();
        firstImage = new Facts();
        secondImage = new Facts();
        imagesKept = 0;
        halves = new int[MOST_PLACES];
        told = new FinedRows();
        grown = new FinedRows();
    }

    // ---- 1 bits, losses

    public int deep(int v) {
        if (v < 1 || v > MOST_DEEP) {
            return OUTSIDE;
        }
        int was = now.deep;
        now.beginAnew(v);
        return was;
    }

    public int loss(int top, int of) {
        if (of < LEAST_OF || of > MOST_OF || top < 0 || top > of) {
            return OUTSIDE;
        }
        int was = now.of;
        now.top = top;
        now.of = of;
        return was;
    }

    public long split(int bit, int part) {
        if (!isPlace(bit)) {
            return UNKNOWN;
        }
        if (part < 0 || part > 1) {
            return OUTSIDE;
        }
        long upper = upperLoss(bit);
        long lower = lowerLoss();
        long common = commonDivisor(upper, lower);
        if (common < 1) {
            return OUTSIDE;
        }
        return part == 0 ? upper / common : lower / common;
    }

    public int rank(int i, int what) {
        if (!isPlace(i)) {
            return UNKNOWN;
        }
        if (what < 0 || what > 1) {
            return OUTSIDE;
        }
        return what == 0 ? bitOfRank(i) : howManyBetter(i);
    }

    public int freeze(int set) {
        if (!isSet(set)) {
            return OUTSIDE;
        }
        now.frozen = set;
        return howManyFree();
    }

    public int best(int n) {
        if (n < 0 || n > places()) {
            return OUTSIDE;
        }
        int bad = 0;
        for (int bit = 0; bit < places(); bit++) {
            if (howManyBetter(bit) >= n) {
                bad |= 1 << bit;
            }
        }
        now.frozen = bad;
        return bad;
    }

    public int coded(int row) {
        return isSet(row) ? codedOf(row) : OUTSIDE;
    }

    public int word(int v) {
        if (v < 0 || v >= 1 << howManyFree()) {
            return OUTSIDE;
        }
        int row = 0;
        int rest = v;
        for (int bit = 0; bit < places(); bit++) {
            if (isFree(bit)) {
                row |= (rest & 1) << bit;
                rest >>= 1;
            }
        }
        return row;
    }

    public int light(int what) {
        if (what < 0 || what > 1) {
            return OUTSIDE;
        }
        if (howManyFree() == 0) {
            return NONE;
        }
        int weight = leastWeight();
        return what == 0 ? weight : howManySets(weight, true);
    }

    // ---- 2 what came

    public int put(int place, int v) {
        if (!isPlace(place)) {
            return GONE + UNKNOWN;
        }
        if (v < -MOST_MEASURE || v > MOST_MEASURE) {
            return GONE + OUTSIDE;
        }
        int was = now.measures[place];
        now.measures[place] = v;
        return was;
    }

    public int hear(int row, int strong) {
        if (!isSet(row) || strong < 1 || strong > MOST_MEASURE) {
            return OUTSIDE;
        }
        int sent = codedOf(row);
        for (int place = 0; place < places(); place++) {
            now.measures[place] = has(sent, place) ? -strong : strong;
        }
        return sent;
    }

    public int spoil(int set, int how) {
        if (!isSet(set) || how < 0 || how > 1) {
            return OUTSIDE;
        }
        int notZero = 0;
        for (int place = 0; place < places(); place++) {
            if (has(set, place) && now.measures[place] != 0) {
                notZero++;
                now.measures[place] = how == 0 ? 0 : -now.measures[place];
            }
        }
        return notZero;
    }

    public int measure(int place, int what) {
        if (!isPlace(place)) {
            return GONE + UNKNOWN;
        }
        if (what < 0 || what > 1) {
            return GONE + OUTSIDE;
        }
        return what == 0 ? now.measures[place] : seenOf(place, rowRead());
    }

    public int read(int what) {
        if (what < 0 || what > 3) {
            return OUTSIDE;
        }
        int row = rowRead();
        switch (what) {
            case 0:
                return row;
            case 1:
                return fineOf(row);
            case 2:
                return howManyToldOtherwise(codedOf(row));
            default:
                return now.holds(row) ? 1 : 0;
        }
    }

    public int most(int v) {
        if (v < 1 || v > MOST_KEPT) {
            return OUTSIDE;
        }
        int was = now.most;
        now.most = v;
        return was;
    }

    public int kept(int i, int what) {
        if (what < 0 || what > 2) {
            return OUTSIDE;
        }
        tellKept();
        if (i == -1) {
            return told.size;
        }
        if (!told.hasAt(i)) {
            return NONE;
        }
        switch (what) {
            case 0:
                return told.rows[i];
            case 1:
                return told.fines[i];
            default:
                return now.holds(told.rows[i]) ? 1 : 0;
        }
    }

    public int chosen(int what) {
        if (what < 0 || what > 2) {
            return OUTSIDE;
        }
        tellKept();
        int which = firstThatHolds();
        if (!told.hasAt(which)) {
            return NONE;
        }
        switch (what) {
            case 0:
                return told.rows[which];
            case 1:
                return which;
            default:
                return told.fines[which];
        }
    }

    // ---- 3 checks, lost places

    public int check(int check, int set) {
        if (check < 0 || check >= CHECKS) {
            return UNKNOWN;
        }
        if (!isSet(set)) {
            return OUTSIDE;
        }
        int was = now.checks[check];
        now.checks[check] = set;
        return was;
    }

    public int open(int set, int what) {
        if (!isSet(set) || what < 0 || what > 1) {
            return OUTSIDE;
        }
        int bits = openFor(set);
        return what == 0 ? bits : Integer.bitCount(bits);
    }

    public int fragile(int what) {
        if (what < 0 || what > 2) {
            return OUTSIDE;
        }
        if (howManyFree() == 0) {
            return NONE;
        }
        // A bit's fewest lost PLACES are as many as CODED of it alone has 1:
        // both stay in a FIRST half and double in a SECOND one.
        int fewest = leastWeight();
        switch (what) {
            case 0:
                return fewest;
            case 1:
                return howManySets(fewest, false);
            default:
                return leastSetThatOpens(fewest);
        }
    }

    // ---- 4 images

    public int image(int k) {
        if (k < 0 || k >= IMAGES) {
            return OUTSIDE;
        }
        imageAt(k).copyFrom(now);
        imagesKept |= 1 << k;
        return 1;
    }

    public int restore(int k) {
        if (k < 0 || k >= IMAGES) {
            return OUTSIDE;
        }
        if (!has(imagesKept, k)) {
            return STATE;
        }
        now.copyFrom(imageAt(k));
        return 1;
    }

    public int count(int what) {
        switch (what) {
            case 0:
                return now.deep;
            case 1:
                return now.top;
            case 2:
                return now.of;
            case 3:
                return now.frozen;
            case 4:
                return howManyFree();
            case 5:
                return now.most;
            case 6:
                return imagesKept;
            default:
                return checkCounted(what);
        }
    }

    // ---- places, sets

    private int places() {
        return 1 << now.deep;
    }

    private boolean isPlace(int place) {
        return place >= 0 && place < places();
    }

    private boolean isSet(int set) {
        return set >= 0 && set < 1 << places();
    }

    private static boolean has(int set, int place) {
        return ((set >> place) & 1) == 1;
    }

    private boolean isFree(int bit) {
        return !has(now.frozen, bit);
    }

    private int howManyFree() {
        return places() - Integer.bitCount(now.frozen);
    }

    /** The next greater set of as many PLACES as a set above 0: the lowest run of 1 goes up by its last one. */
    private static int nextOfSize(int set) {
        int lowest = Math.max(set & -set, 1);
        int carried = set + lowest;
        int rest = ((set ^ carried) >> 2) / lowest;
        return carried | rest;
    }

    // ---- losses

    /** LOSS of a bit with the lower number of lowerLoss, so that bits can be compared by this one alone. */
    private long upperLoss(int bit) {
        long upper = now.top;
        long lower = now.of;
        for (int value = places() >> 1; value > 0; value >>= 1) {
            boolean second = (bit & value) != 0;
            upper = second ? upper * upper : 2 * upper * lower - upper * upper;
            lower *= lower;
        }
        return upper;
    }

    private long lowerLoss() {
        long lower = now.of;
        for (int level = 0; level < now.deep; level++) {
            lower *= lower;
        }
        return lower;
    }

    private static long commonDivisor(long one, long other) {
        long greater = other;
        long lesser = one;
        for (int turn = 0; turn < MOST_TURNS && lesser != 0; turn++) {
            long rest = greater % lesser;
            greater = lesser;
            lesser = rest;
        }
        return greater;
    }

    private int howManyBetter(int bit) {
        long loss = upperLoss(bit);
        int better = 0;
        for (int other = 0; other < places(); other++) {
            long otherLoss = upperLoss(other);
            if (otherLoss < loss || (otherLoss == loss && other > bit)) {
                better++;
            }
        }
        return better;
    }

    private int bitOfRank(int rank) {
        for (int bit = 0; bit < places(); bit++) {
            if (howManyBetter(bit) == rank) {
                return bit;
            }
        }
        return UNKNOWN;
    }

    // ---- rows

    /** Levels beyond the length of a shorter row change nothing: the SECOND ones there are all 0. */
    private static int codedOf(int row) {
        int mixed = row;
        for (int level = 0; level < FIRST_OF_PAIRS.length; level++) {
            mixed ^= (mixed >> (1 << level)) & FIRST_OF_PAIRS[level];
        }
        return mixed;
    }

    /**
     * A WORD whose first 1 is in the FIRST half weighs no less than CODED of that half; another one twice
     * as much as CODED of its SECOND half. So none weighs less than CODED of its first 1 alone, and the
     * lightest FREE bit tells the least WEIGHT. Asked for only if something is FREE.
     */
    private int leastWeight() {
        int least = MOST_PLACES;
        for (int bit = 0; bit < places(); bit++) {
            if (isFree(bit)) {
                least = Math.min(least, Integer.bitCount(codedOf(1 << bit)));
            }
        }
        return least;
    }

    /** CODED of CODED of a ROW is the ROW again: so the WORD that is sent as a set can be told from it. */
    private boolean isSentAsWord(int set) {
        return (codedOf(set) & now.frozen) == 0;
    }

    /** How many sets of a size are sent as WORDS (sent), or leave a bit OPEN if they are lost. */
    private int howManySets(int size, boolean sent) {
        int end = 1 << places();
        int sets = 0;
        int set = (1 << size) - 1;
        for (int turn = 0; turn < end && set < end; turn++) {
            if (sent ? isSentAsWord(set) : openFor(set) != 0) {
                sets++;
            }
            set = nextOfSize(set);
        }
        return sets;
    }

    // ---- what came

    /** SEEN of a bit; of the row only bits ahead of it matter. */
    private int seenOf(int bit, int row) {
        System.arraycopy(now.measures, 0, halves, 0, MOST_PLACES);
        int start = 0;
        for (int half = places() >> 1; half > 0; half >>= 1) {
            if ((bit & half) == 0) {
                goFirst(half);
            } else {
                goSecond(half, codedOf((row >> start) & ((1 << half) - 1)));
                start += half;
            }
        }
        return halves[0];
    }

    private void goFirst(int half) {
        for (int at = 0; at < half; at++) {
            halves[at] = weaker(halves[at], halves[at + half]);
        }
    }

    private void goSecond(int half, int first) {
        for (int at = 0; at < half; at++) {
            int added = has(first, at) ? -halves[at] : halves[at];
            halves[at] = halves[at + half] + added;
        }
    }

    private static int weaker(int a, int b) {
        int lesser = Math.min(Math.abs(a), Math.abs(b));
        return (a < 0) != (b < 0) ? -lesser : lesser;
    }

    private int rowRead() {
        int row = 0;
        for (int bit = 0; bit < places(); bit++) {
            if (isFree(bit) && seenOf(bit, row) < 0) {
                row |= 1 << bit;
            }
        }
        return row;
    }

    private int fineOf(int row) {
        int fine = 0;
        for (int bit = 0; bit < places(); bit++) {
            fine += fineOfBit(seenOf(bit, row), has(row, bit));
        }
        return fine;
    }

    private static int fineOfBit(int seen, boolean one) {
        return one ? Math.max(seen, 0) : Math.max(-seen, 0);
    }

    private int howManyToldOtherwise(int sent) {
        int otherwise = 0;
        for (int place = 0; place < places(); place++) {
            int measure = now.measures[place];
            if (measure != 0 && (measure < 0) != has(sent, place)) {
                otherwise++;
            }
        }
        return otherwise;
    }

    /** Makes KEPT anew, as things are now. */
    private void tellKept() {
        told.clear();
        told.add(0, 0);
        for (int bit = 0; bit < places(); bit++) {
            growBy(bit);
            told.takeFirst(grown, now.most);
        }
    }

    private void growBy(int bit) {
        grown.clear();
        for (int at = 0; at < told.size; at++) {
            int row = told.rows[at];
            int fine = told.fines[at];
            int seen = seenOf(bit, row);
            grown.add(row, fine + fineOfBit(seen, false));
            if (isFree(bit)) {
                grown.add(row | (1 << bit), fine + fineOfBit(seen, true));
            }
        }
    }

    private int firstThatHolds() {
        for (int at = 0; at < told.size; at++) {
            if (now.holds(told.rows[at])) {
                return at;
            }
        }
        return NONE;
    }

    // ---- lost places

    /**
     * The pairs of PLACES at each level go together: of lost ones, either makes the FIRST lost, only both
     * the SECOND. Levels beyond the length of a shorter row change nothing.
     */
    private int openFor(int set) {
        int lost = set;
        for (int level = FIRST_OF_PAIRS.length - 1; level >= 0; level--) {
            int half = 1 << level;
            int firsts = FIRST_OF_PAIRS[level];
            int either = (lost | (lost >> half)) & firsts;
            int both = lost & (lost << half) & (firsts << half);
            lost = either | both;
        }
        return lost & ~now.frozen;
    }

    private int leastSetThatOpens(int size) {
        int end = 1 << places();
        int set = (1 << size) - 1;
        for (int turn = 0; turn < end && set < end; turn++) {
            if (openFor(set) != 0) {
                return set;
            }
            set = nextOfSize(set);
        }
        return NONE;
    }

    // ---- images, counts

    private Facts imageAt(int k) {
        return k == 0 ? firstImage : secondImage;
    }

    private int checkCounted(int what) {
        if (what < FIRST_CHECK_COUNT || what >= FIRST_CHECK_COUNT + CHECKS) {
            return OUTSIDE;
        }
        return now.checks[what - FIRST_CHECK_COUNT];
    }

    /** All that an IMAGE keeps. */
    private static final class Facts {
        private int deep = 3;
        private int top = 1;
        private int of = 2;
        private int frozen = 0;
        private int most = 1;
        private final int[] measures = new int[MOST_PLACES];
        private final int[] checks = new int[CHECKS];

        void beginAnew(int newDeep) {
            deep = newDeep;
            frozen = 0;
            for (int place = 0; place < MOST_PLACES; place++) {
                measures[place] = 0;
            }
            for (int at = 0; at < CHECKS; at++) {
                checks[at] = 0;
            }
        }

        void copyFrom(Facts other) {
            deep = other.deep;
            top = other.top;
            of = other.of;
            frozen = other.frozen;
            most = other.most;
            System.arraycopy(other.measures, 0, measures, 0, MOST_PLACES);
            System.arraycopy(other.checks, 0, checks, 0, CHECKS);
        }

        boolean holds(int row) {
            for (int at = 0; at < CHECKS; at++) {
                if ((Integer.bitCount(row & checks[at]) & 1) != 0) {
                    return false;
                }
            }
            return true;
        }
    }

    /** Rows with their FINES, those of the least FINE first, of like ones those of the lesser number. */
    private static final class FinedRows {
        /** Each of the most rows that are KEPT is made two ahead of the choice. */
        private static final int ROOM = 2 * MOST_KEPT;

        private final int[] rows = new int[ROOM];
        private final int[] fines = new int[ROOM];
        private int size = 0;

        void clear() {
            size = 0;
        }

        boolean hasAt(int at) {
            return at >= 0 && at < size;
        }

        void add(int row, int fine) {
            if (size >= ROOM) {
                return;
            }
            int at = size;
            while (at > 0 && isAhead(row, fine, at - 1)) {
                rows[at] = rows[at - 1];
                fines[at] = fines[at - 1];
                at--;
            }
            rows[at] = row;
            fines[at] = fine;
            size++;
        }

        void takeFirst(FinedRows other, int limit) {
            size = Math.min(other.size, limit);
            System.arraycopy(other.rows, 0, rows, 0, size);
            System.arraycopy(other.fines, 0, fines, 0, size);
        }

        private boolean isAhead(int row, int fine, int at) {
            return fine < fines[at] || (fine == fines[at] && row < rows[at]);
        }
    }
}
