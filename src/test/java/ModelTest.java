import java.math.BigInteger;
import java.util.ArrayList;
import java.util.Arrays;
import java.util.Comparator;
import java.util.List;
import java.util.Random;
import java.util.stream.IntStream;

/** All calls against a second writing of the document, that keeps to its words and takes no short way. */
public final class ModelTest {
    private static final int UNKNOWN = -1, OUTSIDE = -2, STATE = -3, NONE = -6, GONE = -1000000;
    private static final int CALLS = 23;
    private static final int CALLS_OF_AN_OBJECT = 512;
    private static final int OBJECTS = 400;

    private static long right = 0;
    private static int wrong = 0;

    // ---- the document's words, of rows as arrays

    private static int[] bitsOf(int row, int length) {
        int[] bits = new int[length];
        for (int k = 0; k < length; k++) {
            bits[k] = row >> k & 1;
        }
        return bits;
    }

    private static int numberOf(int[] bits) {
        int row = 0;
        for (int k = 0; k < bits.length; k++) {
            row += bits[k] << k;
        }
        return row;
    }

    private static int[] codedBits(int[] row) {
        if (row.length == 1) {
            return row;
        }
        int half = row.length / 2;
        int[] first = codedBits(Arrays.copyOfRange(row, 0, half));
        int[] second = codedBits(Arrays.copyOfRange(row, half, row.length));
        int[] all = new int[row.length];
        for (int k = 0; k < half; k++) {
            all[k] = first[k] + second[k] == 1 ? 1 : 0;
            all[half + k] = second[k];
        }
        return all;
    }

    private static int weaker(int a, int b) {
        if (a == 0 || b == 0) {
            return 0;
        }
        int lesser = Math.abs(a) < Math.abs(b) ? Math.abs(a) : Math.abs(b);
        boolean justOne = a < 0 && b > 0 || a > 0 && b < 0;
        return justOne ? -lesser : lesser;
    }

    /** SEEN of bit k of these bits, of which those ahead of k are told. */
    private static int seen(int[] came, int[] bits, int k) {
        if (came.length == 1) {
            return came[0];
        }
        int half = came.length / 2;
        int[] next = new int[half];
        int[] firstBits = Arrays.copyOfRange(bits, 0, half);
        if (k < half) {
            for (int j = 0; j < half; j++) {
                next[j] = weaker(came[j], came[half + j]);
            }
            return seen(next, firstBits, k);
        }
        int[] codedFirst = codedBits(firstBits);
        for (int j = 0; j < half; j++) {
            next[j] = codedFirst[j] == 0 ? came[half + j] + came[j] : came[half + j] - came[j];
        }
        return seen(next, Arrays.copyOfRange(bits, half, bits.length), k - half);
    }

    // ---- tables of what depends on DEEP alone: CODED of all rows, bits not told for all lost sets

    private static final int[][] CODED = new int[5][];
    private static final int[][] NOT_TOLD = new int[5][];

    private static void fillTables() {
        for (int deep = 1; deep <= 4; deep++) {
            int n = 1 << deep;
            CODED[deep] = new int[1 << n];
            NOT_TOLD[deep] = new int[1 << n];
            for (int set = 0; set < 1 << n; set++) {
                CODED[deep][set] = numberOf(codedBits(bitsOf(set, n)));
                NOT_TOLD[deep][set] = notTold(set, n);
            }
        }
    }

    private static int notTold(int set, int n) {
        int[] came = new int[n];
        for (int k = 0; k < n; k++) {
            came[k] = (set >> k & 1) == 1 ? 0 : 1;
        }
        int bits = 0;
        for (int k = 0; k < n; k++) {
            if (seen(came, new int[n], k) == 0) {
                bits |= 1 << k;
            }
        }
        return bits;
    }

    /** A row of bits told so far, with its FINE. */
    private static final class Fined {
        final int[] bits;
        final int fine;

        Fined(int[] bits, int fine) {
            this.bits = bits;
            this.fine = fine;
        }

        int number() {
            return numberOf(bits);
        }

        Fined with(int k, int bit, int seen) {
            int[] more = bits.clone();
            more[k] = bit;
            boolean fined = seen < 0 && bit == 0 || seen > 0 && bit == 1;
            return new Fined(more, fined ? fine + Math.abs(seen) : fine);
        }
    }

    /** The second writing. */
    private static final class Model {
        int deep = 3;
        int top = 1;
        int of = 2;
        int frozen = 0;
        int most = 1;
        int[] came = new int[8];
        int[] checks = new int[3];
        final Model[] images = new Model[2];

        int n() {
            return 1 << deep;
        }

        boolean place(int k) {
            return k >= 0 && k < n();
        }

        boolean set(int s) {
            return s >= 0 && s <= (1 << n()) - 1;
        }

        boolean free(int k) {
            return (frozen >> k & 1) == 0;
        }

        int frees() {
            int frees = 0;
            for (int k = 0; k < n(); k++) {
                frees += free(k) ? 1 : 0;
            }
            return frees;
        }

        void take(Model other) {
            deep = other.deep;
            top = other.top;
            of = other.of;
            frozen = other.frozen;
            most = other.most;
            came = other.came.clone();
            checks = other.checks.clone();
        }

        /** LOSS of a bit, times OF to the power of N. */
        BigInteger upper(int k) {
            BigInteger upper = BigInteger.valueOf(top);
            BigInteger lower = BigInteger.valueOf(of);
            for (int level = deep - 1; level >= 0; level--) {
                BigInteger square = upper.multiply(upper);
                BigInteger twice = upper.multiply(lower).shiftLeft(1);
                upper = (k >> level & 1) == 0 ? twice.subtract(square) : square;
                lower = lower.multiply(lower);
            }
            return upper;
        }

        List<Integer> bestFirst() {
            List<Integer> bits = new ArrayList<>();
            for (int k = n() - 1; k >= 0; k--) {
                bits.add(k);
            }
            bits.sort(Comparator.comparing(this::upper));
            return bits;
        }

        long split(int bit, int part) {
            BigInteger lower = BigInteger.valueOf(of).pow(n());
            BigInteger common = lower.gcd(upper(bit));
            return (part == 0 ? upper(bit) : lower).divide(common).longValueExact();
        }

        int best(int n) {
            frozen = (1 << n()) - 1;
            for (int k : bestFirst().subList(0, n)) {
                frozen -= 1 << k;
            }
            return frozen;
        }

        int word(int v) {
            int row = 0;
            int j = 0;
            for (int k = 0; k < n(); k++) {
                if (free(k)) {
                    row |= (v >> j & 1) << k;
                    j++;
                }
            }
            return row;
        }

        int light(int what) {
            if (frees() == 0) {
                return NONE;
            }
            int[] ofWeight = new int[n() + 1];
            for (int row = 1; row < 1 << n(); row++) {
                if ((row & frozen) == 0) {
                    ofWeight[Integer.bitCount(CODED[deep][row])]++;
                }
            }
            int least = 1;
            while (ofWeight[least] == 0) {
                least++;
            }
            return what == 0 ? least : ofWeight[least];
        }

        int[] read() {
            int[] bits = new int[n()];
            for (int k = 0; k < n(); k++) {
                bits[k] = !free(k) || seen(came, bits, k) >= 0 ? 0 : 1;
            }
            return bits;
        }

        boolean holds(int row) {
            return Arrays.stream(checks).allMatch(check -> Integer.bitCount(check & row) % 2 == 0);
        }

        int read(int what) {
            int[] bits = read();
            Fined fined = new Fined(new int[n()], 0);
            for (int k = 0; k < n(); k++) {
                fined = fined.with(k, bits[k], seen(came, bits, k));
            }
            int[] sent = codedBits(bits);
            int other = 0;
            for (int k = 0; k < n(); k++) {
                other += came[k] > 0 && sent[k] == 1 || came[k] < 0 && sent[k] == 0 ? 1 : 0;
            }
            int[] answers = {numberOf(bits), fined.fine, other, holds(numberOf(bits)) ? 1 : 0};
            return answers[what];
        }

        List<Fined> kept() {
            Comparator<Fined> order = Comparator.comparingInt((Fined f) -> f.fine).thenComparingInt(Fined::number);
            List<Fined> kept = new ArrayList<>(List.of(new Fined(new int[n()], 0)));
            for (int k = 0; k < n(); k++) {
                List<Fined> more = new ArrayList<>();
                for (Fined f : kept) {
                    int seen = seen(came, f.bits, k);
                    more.add(f.with(k, 0, seen));
                    if (free(k)) {
                        more.add(f.with(k, 1, seen));
                    }
                }
                if (more.size() > most) {
                    more.sort(order);
                    more = new ArrayList<>(more.subList(0, most));
                }
                kept = more;
            }
            kept.sort(order);
            return kept;
        }

        int kept(int i, int what) {
            List<Fined> kept = kept();
            if (i == -1) {
                return kept.size();
            }
            if (i < 0 || i >= kept.size()) {
                return NONE;
            }
            Fined f = kept.get(i);
            int[] answers = {f.number(), f.fine, holds(f.number()) ? 1 : 0};
            return answers[what];
        }

        int chosen(int what) {
            List<Fined> kept = kept();
            for (int i = 0; i < kept.size(); i++) {
                Fined f = kept.get(i);
                if (holds(f.number())) {
                    int[] answers = {f.number(), i, f.fine};
                    return answers[what];
                }
            }
            return NONE;
        }

        int fragile(int what) {
            if (frees() == 0) {
                return NONE;
            }
            int[] sets = new int[n() + 1];
            int[] least = new int[n() + 1];
            for (int set = (1 << n()) - 1; set >= 0; set--) {
                if ((NOT_TOLD[deep][set] & ~frozen) != 0) {
                    sets[Integer.bitCount(set)]++;
                    least[Integer.bitCount(set)] = set;
                }
            }
            int fewest = 0;
            while (sets[fewest] == 0) {
                fewest++;
            }
            int[] answers = {fewest, sets[fewest], least[fewest]};
            return answers[what];
        }

        int spoil(int set, int how) {
            int notZero = 0;
            for (int k = 0; k < n(); k++) {
                if ((set >> k & 1) == 1) {
                    notZero += came[k] == 0 ? 0 : 1;
                    came[k] = how == 0 ? 0 : -came[k];
                }
            }
            return notZero;
        }

        int hear(int row, int strong) {
            int[] sent = codedBits(bitsOf(row, n()));
            for (int k = 0; k < n(); k++) {
                came[k] = sent[k] == 0 ? strong : -strong;
            }
            return numberOf(sent);
        }

        int count(int what) {
            int kept = (images[0] == null ? 0 : 1) + (images[1] == null ? 0 : 2);
            int[] answers = {deep, top, of, frozen, frees(), most, kept};
            if (what >= 0 && what <= 6) {
                return answers[what];
            }
            return what >= 10 && what <= 12 ? checks[what - 10] : OUTSIDE;
        }

        long refusal(int call, int a, int b) {
            switch (call) {
                case 0: return a >= 1 && a <= 4 ? 0 : OUTSIDE;
                case 1: return b >= 2 && b <= 10 && a >= 0 && a <= b ? 0 : OUTSIDE;
                case 2: case 3: return !place(a) ? UNKNOWN : in(b, 0, 1);
                case 4: case 6: return set(a) ? 0 : OUTSIDE;
                case 5: return in(a, 0, n());
                case 7: return in(a, 0, (1 << frees()) - 1);
                case 8: return in(a, 0, 1);
                case 9: return !place(a) ? GONE + UNKNOWN : in(b, -99, 99) == 0 ? 0 : GONE + OUTSIDE;
                case 10: return set(a) ? in(b, 1, 99) : OUTSIDE;
                case 11: case 18: return set(a) ? in(b, 0, 1) : OUTSIDE;
                case 12: return !place(a) ? GONE + UNKNOWN : in(b, 0, 1) == 0 ? 0 : GONE + OUTSIDE;
                case 13: return in(a, 0, 3);
                case 14: return in(a, 1, 8);
                case 15: return in(b, 0, 2);
                case 16: case 19: return in(a, 0, 2);
                case 17: return in(a, 0, 2) != 0 ? UNKNOWN : set(b) ? 0 : OUTSIDE;
                case 20: return in(a, 0, 1);
                case 21: return in(a, 0, 1) != 0 ? OUTSIDE : images[a] == null ? STATE : 0;
                default: return 0;
            }
        }

        static int in(int v, int least, int greatest) {
            return v >= least && v <= greatest ? 0 : OUTSIDE;
        }

        long answer(int call, int a, int b) {
            long refusal = refusal(call, a, b);
            if (refusal != 0) {
                return refusal;
            }
            return call < 9 ? bits(call, a, b) : call < 17 ? came(call, a, b) : rest(call, a, b);
        }

        private long bits(int call, int a, int b) {
            int was;
            switch (call) {
                case 0:
                    was = deep;
                    deep = a;
                    frozen = 0;
                    came = new int[n()];
                    checks = new int[3];
                    return was;
                case 1:
                    was = of;
                    top = a;
                    of = b;
                    return was;
                case 2: return split(a, b);
                case 3: return b == 0 ? bestFirst().get(a) : bestFirst().indexOf(a);
                case 4:
                    frozen = a;
                    return frees();
                case 5: return best(a);
                case 6: return numberOf(codedBits(bitsOf(a, n())));
                case 7: return word(a);
                default: return light(a);
            }
        }

        private long came(int call, int a, int b) {
            int was;
            switch (call) {
                case 9:
                    was = came[a];
                    came[a] = b;
                    return was;
                case 10: return hear(a, b);
                case 11: return spoil(a, b);
                case 12: return b == 0 ? came[a] : seen(came, read(), a);
                case 13: return read(a);
                case 14:
                    was = most;
                    most = a;
                    return was;
                case 15: return kept(a, b);
                default: return chosen(a);
            }
        }

        private long rest(int call, int a, int b) {
            int was;
            switch (call) {
                case 17:
                    was = checks[a];
                    checks[a] = b;
                    return was;
                case 18:
                    int open = NOT_TOLD[deep][a] & ~frozen;
                    return b == 0 ? open : Integer.bitCount(open);
                case 19: return fragile(a);
                case 20:
                    images[a] = new Model();
                    images[a].take(this);
                    return 1;
                case 21:
                    take(images[a]);
                    return 1;
                default: return count(a);
            }
        }
    }

    private static long asked(FrozenBits x, int call, int a, int b) {
        switch (call) {
            case 0: return x.deep(a);
            case 1: return x.loss(a, b);
            case 2: return x.split(a, b);
            case 3: return x.rank(a, b);
            case 4: return x.freeze(a);
            case 5: return x.best(a);
            case 6: return x.coded(a);
            case 7: return x.word(a);
            case 8: return x.light(a);
            case 9: return x.put(a, b);
            case 10: return x.hear(a, b);
            case 11: return x.spoil(a, b);
            case 12: return x.measure(a, b);
            case 13: return x.read(a);
            case 14: return x.most(a);
            case 15: return x.kept(a, b);
            case 16: return x.chosen(a);
            case 17: return x.check(a, b);
            case 18: return x.open(a, b);
            case 19: return x.fragile(a);
            case 20: return x.image(a);
            case 21: return x.restore(a);
            default: return x.count(a);
        }
    }

    private static final String[] NAMES = {
        "deep", "loss", "split", "rank", "freeze", "best", "coded", "word", "light", "put", "hear", "spoil",
        "measure", "read", "most", "kept", "chosen", "check", "open", "fragile", "image", "restore", "count"};

    /** One at a time, for the sets of sixteen PLACES are asked side by side. */
    private static synchronized void due(String where, int call, int a, int b, long got, long want) {
        if (got == want) {
            right++;
            return;
        }
        wrong++;
        if (wrong <= 20) {
            System.out.println(where + ": " + NAMES[call] + "(" + a + ", " + b + ") answered " + got
                + ", due is " + want);
        }
    }

    // ---- random runs

    /** A number that is near 0 to top less 1, mostly within. */
    private static int near(Random random, int top) {
        int dice = random.nextInt(30);
        if (dice == 0) {
            return -1 - random.nextInt(3);
        }
        if (dice == 1) {
            return top + random.nextInt(2);
        }
        if (dice == 2 && random.nextInt(4) == 0) {
            return random.nextInt();
        }
        return random.nextInt(top);
    }

    private static int measure(Random random, int grain) {
        int v = random.nextInt(199) - 99;
        return random.nextInt(40) == 0 ? 98 + random.nextInt(3) : v / grain;
    }

    private static int[] arguments(Random random, int call, Model model, int grain) {
        int n = model.n();
        int sets = 1 << n;
        switch (call) {
            case 0: return two(1 + near(random, 4), 0);
            case 1: return two(near(random, 8), 2 + near(random, 9));
            case 2: case 3: case 12: return two(near(random, n), near(random, 2));
            case 4: case 6: return two(near(random, sets), 0);
            case 5: return two(near(random, n + 1), 0);
            case 7: return two(near(random, 1 << model.frees()), 0);
            case 8: return two(near(random, 2), 0);
            case 9: return two(near(random, n), measure(random, grain));
            case 10: return two(near(random, sets), 1 + near(random, 99));
            case 11: case 18: return two(near(random, sets), near(random, 2));
            case 13: return two(near(random, 4), 0);
            case 14: return two(1 + near(random, 8), 0);
            case 15: return two(near(random, model.most + 1) - (random.nextInt(6) == 0 ? 1 : 0), near(random, 3));
            case 16: case 19: return two(near(random, 3), 0);
            case 17: return two(near(random, 3), near(random, sets));
            case 20: case 21: return two(near(random, 2), 0);
            default: return two(near(random, 13), 0);
        }
    }

    private static int[] two(int a, int b) {
        return new int[] {a, b};
    }

    private static int anyCall(Random random) {
        int call = random.nextInt(CALLS + 12);
        if (call >= CALLS) {
            return call < CALLS + 8 ? 9 : 15;
        }
        // A change of DEEP empties nearly all, so it is made seldom.
        return call == 0 && random.nextInt(3) != 0 ? 10 : call;
    }

    private static void randomRun(int seed) {
        Random random = new Random(seed);
        FrozenBits x = new FrozenBits();
        Model model = new Model();
        int grain = 1 << random.nextInt(6);
        for (int turn = 0; turn < CALLS_OF_AN_OBJECT; turn++) {
            int call = turn == 0 ? 0 : anyCall(random);
            int[] ab = arguments(random, call, model, grain);
            long want = model.answer(call, ab[0], ab[1]);
            due("seed " + seed + ", call " + turn, call, ab[0], ab[1], asked(x, call, ab[0], ab[1]), want);
        }
    }

    // ---- whole ranges

    /** Answers do not hang on how often an object was asked, but only 512 are promised: so many an object. */
    private static final class Pair {
        private FrozenBits x;
        private final Model model = new Model();
        private int calls = CALLS_OF_AN_OBJECT;
        private final int deep;

        Pair(int deep) {
            this.deep = deep;
            model.answer(0, deep, 0);
        }

        void ask(int call, int a, int b) {
            if (calls + 5 > CALLS_OF_AN_OBJECT) {
                x = new FrozenBits();
                x.deep(deep);
                x.freeze(model.frozen);
                x.loss(model.top, model.of);
                calls = 3;
            }
            calls++;
            due("DEEP " + deep + ", FROZEN " + model.frozen, call, a, b, asked(x, call, a, b),
                model.answer(call, a, b));
        }
    }

    private static void allRows(int deep) {
        Pair pair = new Pair(deep);
        for (int row = 0; row < 1 << (1 << deep); row++) {
            pair.ask(6, row, 0);
            pair.ask(18, row, 0);
        }
    }

    private static void allLosses(int deep) {
        Pair pair = new Pair(deep);
        for (int of = 2; of <= 10; of++) {
            for (int top = 0; top <= of; top++) {
                pair.ask(1, top, of);
                for (int bit = 0; bit < 1 << deep; bit++) {
                    pair.ask(2, bit, 0);
                    pair.ask(2, bit, 1);
                    pair.ask(3, bit, 0);
                    pair.ask(3, bit, 1);
                    pair.ask(5, bit + 1, 0);
                }
            }
        }
    }

    private static void lightAndFragile(Pair pair, int frozen) {
        pair.ask(4, frozen, 0);
        pair.ask(8, 0, 0);
        pair.ask(8, 1, 0);
        pair.ask(19, 0, 0);
        pair.ask(19, 1, 0);
        pair.ask(19, 2, 0);
    }

    private static void allFrozenSets(int deep) {
        Pair pair = new Pair(deep);
        for (int frozen = 0; frozen < 1 << (1 << deep); frozen++) {
            lightAndFragile(pair, frozen);
        }
    }

    /** As lightAndFragile, but by one look at all rows and sets: the model's five looks are too many for them all. */
    private static void lightAndFragileOfSixteen(int frozen) {
        int[] words = new int[17];
        int[] sets = new int[17];
        int[] leastSets = new int[17];
        for (int set = (1 << 16) - 1; set >= 0; set--) {
            if (set != 0 && (set & frozen) == 0) {
                words[Integer.bitCount(CODED[4][set])]++;
            }
            if ((NOT_TOLD[4][set] & ~frozen) != 0) {
                sets[Integer.bitCount(set)]++;
                leastSets[Integer.bitCount(set)] = set;
            }
        }
        int weight = firstAboveZero(words);
        int fewest = firstAboveZero(sets);
        FrozenBits x = new FrozenBits();
        x.deep(4);
        x.freeze(frozen);
        int[] light = {weight, weight == NONE ? NONE : words[weight]};
        int[] fragile = {fewest, fewest == NONE ? NONE : sets[fewest], fewest == NONE ? NONE : leastSets[fewest]};
        for (int what = 0; what < light.length; what++) {
            due("DEEP 4, FROZEN " + frozen, 8, what, 0, x.light(what), light[what]);
        }
        for (int what = 0; what < fragile.length; what++) {
            due("DEEP 4, FROZEN " + frozen, 19, what, 0, x.fragile(what), fragile[what]);
        }
    }

    private static int firstAboveZero(int[] counts) {
        for (int at = 0; at < counts.length; at++) {
            if (counts[at] > 0) {
                return at;
            }
        }
        return NONE;
    }

    private static void allFrozenSetsOfSixteen() {
        IntStream.range(0, 1 << 16).parallel().forEach(ModelTest::lightAndFragileOfSixteen);
    }

    public static void main(String[] args) {
        fillTables();
        for (int deep = 1; deep <= 4; deep++) {
            allRows(deep);
            allLosses(deep);
        }
        for (int deep = 1; deep <= 3; deep++) {
            allFrozenSets(deep);
        }
        allFrozenSetsOfSixteen();
        for (int seed = 1; seed <= OBJECTS; seed++) {
            randomRun(seed);
        }
        System.out.println(right + " answers are as due, " + wrong + " are not");
        if (wrong != 0) {
            System.exit(1);
        }
    }
}
