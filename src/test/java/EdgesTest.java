import java.lang.reflect.InvocationTargetException;
import java.lang.reflect.Method;
import java.util.Arrays;
import java.util.Comparator;

/**
 * The boundary cases: each sentence of the document that names one has a method here, called by the number of
 * its promise (promise04_...), or by "terms" where it stands ahead of the promises. All of them are run by name.
 */
public final class EdgesTest {
    private static final int UNKNOWN = -1, OUTSIDE = -2, STATE = -3, NONE = -6, GONE = -1000000;
    private static final int PROMISES = 24;
    private static final int[] DEEPS = {1, 2, 3, 4};

    private static String test = "";
    private static int asked = 0;
    private static int right = 0;
    private static int wrong = 0;

    private interface Call {
        long on(FrozenBits x);
    }

    // ---- what is due

    private static void due(String call, long got, long want) {
        same(call, Long.toString(got), Long.toString(want));
    }

    private static void same(String call, String got, String want) {
        asked++;
        if (got.equals(want)) {
            right++;
        } else {
            wrong++;
            System.out.println(test + ": " + call + " answered " + got + ", due is " + want);
        }
    }

    /** Counts and MEASURES: all that an IMAGE keeps, and which IMAGES are kept. */
    private static String facts(FrozenBits x) {
        StringBuilder text = new StringBuilder();
        for (int what = 0; what <= 12; what++) {
            if (what <= 6 || what >= 10) {
                text.append(x.count(what)).append(' ');
            }
        }
        text.append(measures(x));
        return text.toString();
    }

    /** A DEEP that is wrong is told by the test that asks for it: here it must only not make the others endless. */
    private static int placesOf(FrozenBits x) {
        return 1 << Math.max(0, Math.min(4, x.count(0)));
    }

    private static String measures(FrozenBits x) {
        StringBuilder text = new StringBuilder();
        for (int place = 0; place < placesOf(x); place++) {
            text.append(place == 0 ? "" : " ").append(x.measure(place, 0));
        }
        return text.toString();
    }

    private static String seen(FrozenBits x) {
        StringBuilder text = new StringBuilder();
        for (int place = 0; place < placesOf(x); place++) {
            text.append(place == 0 ? "" : " ").append(x.measure(place, 1));
        }
        return text.toString();
    }

    /** Each of KEPT as ROW:FINE:HOLDS. */
    private static String kept(FrozenBits x) {
        StringBuilder text = new StringBuilder();
        for (int i = 0; i < Math.min(8, x.kept(-1, 0)); i++) {
            text.append(i == 0 ? "" : " ").append(x.kept(i, 0)).append(':').append(x.kept(i, 1));
            text.append(':').append(x.kept(i, 2));
        }
        return text.toString();
    }

    private static String read(FrozenBits x) {
        return x.read(0) + " " + x.read(1) + " " + x.read(2) + " " + x.read(3);
    }

    private static String chosen(FrozenBits x) {
        return x.chosen(0) + " " + x.chosen(1) + " " + x.chosen(2);
    }

    private static String light(FrozenBits x) {
        return x.light(0) + " " + x.light(1);
    }

    private static String fragile(FrozenBits x) {
        return x.fragile(0) + " " + x.fragile(1) + " " + x.fragile(2);
    }

    /** All that an object can tell of itself, and then of its IMAGES. */
    private static String story(FrozenBits x) {
        String now = facts(x) + " | " + seen(x) + " | " + read(x) + " | " + kept(x) + " | " + chosen(x)
            + " | " + light(x) + " | " + fragile(x);
        String first = x.restore(0) + " " + facts(x);
        String second = x.restore(1) + " " + facts(x);
        return now + " | " + first + " | " + second;
    }

    // ---- objects to ask

    private static int places(int deep) {
        return 1 << deep;
    }

    /** 2 to the power of N. */
    private static int sets(int deep) {
        return 1 << places(deep);
    }

    /** The set of all PLACES, which is the greatest ROW too. */
    private static int all(int deep) {
        return sets(deep) - 1;
    }

    private static int last(int deep) {
        return places(deep) - 1;
    }

    private static FrozenBits ofDeep(int deep) {
        FrozenBits x = new FrozenBits();
        x.deep(deep);
        return x;
    }

    private static FrozenBits of(int... measures) {
        FrozenBits x = ofDeep(31 - Integer.numberOfLeadingZeros(measures.length));
        for (int place = 0; place < measures.length; place++) {
            x.put(place, measures[place]);
        }
        return x;
    }

    /** An object with something of all that can be changed; in IMAGE 1 other things of another DEEP, in 0 nothing. */
    private static FrozenBits rich(int deep) {
        FrozenBits x = ofDeep(deep == 4 ? 1 : deep + 1);
        x.loss(3, 7);
        x.hear(2, 50);
        x.freeze(1);
        x.most(3);
        x.check(1, 3);
        x.image(1);
        x.deep(deep);
        x.loss(2, 6);
        x.hear(all(deep) - 1, 7);
        x.put(0, -99);
        x.put(1, 99);
        x.put(last(deep), deep == 1 ? 3 : 0);
        x.freeze(2);
        x.most(5);
        x.check(0, 1);
        x.check(1, all(deep));
        x.check(2, 2);
        return x;
    }

    /** Numbers that are not least to greatest: the nearest ones, those that shifts take for others, the farthest. */
    private static int[] outside(int least, int greatest) {
        int[] tried = {least - 1, greatest + 1, least - 2, greatest + 2, least - 32, greatest + 32, least + 32,
            least + 64, least + 65536, least + (1 << 30), Integer.MIN_VALUE + least, Integer.MIN_VALUE,
            Integer.MIN_VALUE + 1, Integer.MAX_VALUE - 1, Integer.MAX_VALUE};
        return Arrays.stream(tried).filter(v -> v < least || v > greatest).distinct().toArray();
    }

    /** The call is refused with what is due, and nothing is other than in an object that was not asked. */
    private static void refused(int deep, String name, Call call, long want) {
        FrozenBits x = rich(deep);
        due(name + " at DEEP " + deep, call.on(x), want);
        same("all behind " + name + " at DEEP " + deep, story(x), story(rich(deep)));
    }

    // ---- terms: refusals

    static void terms_unknownIsToldAheadOfOutside() {
        for (int deep : DEEPS) {
            int n = places(deep);
            refused(deep, "split(N, 2)", x -> x.split(n, 2), UNKNOWN);
            refused(deep, "split(-1, -1)", x -> x.split(-1, -1), UNKNOWN);
            refused(deep, "rank(N, 2)", x -> x.rank(n, 2), UNKNOWN);
            refused(deep, "rank(-1, -1)", x -> x.rank(-1, -1), UNKNOWN);
            refused(deep, "put(N, 100)", x -> x.put(n, 100), GONE + UNKNOWN);
            refused(deep, "put(-1, -100)", x -> x.put(-1, -100), GONE + UNKNOWN);
            refused(deep, "measure(N, 2)", x -> x.measure(n, 2), GONE + UNKNOWN);
            refused(deep, "measure(-1, -1)", x -> x.measure(-1, -1), GONE + UNKNOWN);
            refused(deep, "check(3, -1)", x -> x.check(3, -1), UNKNOWN);
            refused(deep, "check(-1, 2 to the power of N)", x -> x.check(-1, sets(deep)), UNKNOWN);
        }
    }

    static void terms_outsideIsToldAheadOfState() {
        FrozenBits x = new FrozenBits();
        due("restore(2), nothing kept", x.restore(2), OUTSIDE);
        due("restore(-1), nothing kept", x.restore(-1), OUTSIDE);
        due("restore(0), nothing kept", x.restore(0), STATE);
    }

    static void terms_noneIsToldOnlyWhereNoRefusalFits() {
        for (int deep : DEEPS) {
            FrozenBits x = ofDeep(deep);
            x.hear(1, 1);
            x.check(0, 1);
            due("chosen(2), none HOLDS", x.chosen(2), NONE);
            due("chosen(3), none HOLDS", x.chosen(3), OUTSIDE);
            due("kept(1, 2)", x.kept(1, 2), NONE);
            due("kept(1, 3)", x.kept(1, 3), OUTSIDE);
            due("kept(-2, -1)", x.kept(-2, -1), OUTSIDE);
            x.freeze(all(deep));
            due("light(1), nothing FREE", x.light(1), NONE);
            due("light(2), nothing FREE", x.light(2), OUTSIDE);
            due("light(-1), nothing FREE", x.light(-1), OUTSIDE);
            due("fragile(2), nothing FREE", x.fragile(2), NONE);
            due("fragile(3), nothing FREE", x.fragile(3), OUTSIDE);
            due("fragile(-1), nothing FREE", x.fragile(-1), OUTSIDE);
        }
    }

    static void terms_goneIsAddedOnlyWhereANumberCanBeBelowZero() {
        FrozenBits x = new FrozenBits();
        due("put", x.put(8, 0), -1000001);
        due("put", x.put(0, 100), -1000002);
        due("measure", x.measure(8, 0), -1000001);
        due("measure", x.measure(0, 2), -1000002);
        due("SEEN", x.measure(8, 1), -1000001);
        due("split", x.split(8, 0), -1);
        due("rank", x.rank(0, 2), -2);
        due("check", x.check(0, 256), -2);
        due("kept", x.kept(9, 1), -6);
        due("restore", x.restore(1), -3);
    }

    static void terms_theConstants() {
        due("UNKNOWN", FrozenBits.UNKNOWN, -1);
        due("OUTSIDE", FrozenBits.OUTSIDE, -2);
        due("STATE", FrozenBits.STATE, -3);
        due("NONE", FrozenBits.NONE, -6);
        due("GONE", FrozenBits.GONE, -1000000);
    }

    // ---- terms: bounds

    static void terms_deepIsOneToFourThreeAtFirst() {
        FrozenBits x = new FrozenBits();
        due("DEEP at first", x.count(0), 3);
        due("deep(0)", x.deep(0), OUTSIDE);
        due("deep(5)", x.deep(5), OUTSIDE);
        due("deep(1)", x.deep(1), 3);
        due("deep(4)", x.deep(4), 1);
        due("DEEP", x.count(0), 4);
    }

    static void terms_ofIsTwoToTenAndTopZeroToOf() {
        FrozenBits x = new FrozenBits();
        due("TOP at first", x.count(1), 1);
        due("OF at first", x.count(2), 2);
        due("loss(0, 1)", x.loss(0, 1), OUTSIDE);
        due("loss(0, 2)", x.loss(0, 2), 2);
        due("loss(2, 2)", x.loss(2, 2), 2);
        due("loss(3, 2)", x.loss(3, 2), OUTSIDE);
        due("loss(-1, 2)", x.loss(-1, 2), OUTSIDE);
        due("loss(10, 10)", x.loss(10, 10), 2);
        due("loss(11, 10)", x.loss(11, 10), OUTSIDE);
        due("loss(10, 11)", x.loss(10, 11), OUTSIDE);
        due("TOP", x.count(1), 10);
        due("OF", x.count(2), 10);
    }

    static void terms_measuresAreMinus99To99ZeroAtFirst() {
        for (int deep : DEEPS) {
            FrozenBits x = ofDeep(deep);
            for (int place = 0; place < places(deep); place++) {
                due("MEASURE at first", x.measure(place, 0), 0);
                due("put(" + place + ", 99)", x.put(place, 99), 0);
                due("put(" + place + ", 100)", x.put(place, 100), GONE + OUTSIDE);
                due("put(" + place + ", -99)", x.put(place, -99), 99);
                due("put(" + place + ", -100)", x.put(place, -100), GONE + OUTSIDE);
                due("MEASURE", x.measure(place, 0), -99);
            }
        }
    }

    static void terms_mostIsOneToEightOneAtFirst() {
        FrozenBits x = new FrozenBits();
        due("MOST at first", x.count(5), 1);
        due("most(0)", x.most(0), OUTSIDE);
        due("most(9)", x.most(9), OUTSIDE);
        due("most(8)", x.most(8), 1);
        due("most(1)", x.most(1), 8);
    }

    static void terms_checksAreZeroToTwoEmptyAtFirst() {
        FrozenBits x = new FrozenBits();
        due("check(-1, 0)", x.check(-1, 0), UNKNOWN);
        due("check(3, 0)", x.check(3, 0), UNKNOWN);
        for (int check = 0; check <= 2; check++) {
            due("CHECK at first", x.count(10 + check), 0);
            due("check(" + check + ", 255)", x.check(check, 255), 0);
        }
    }

    static void terms_setsAndRowsAtEachDeep() {
        for (int deep : DEEPS) {
            for (int set : new int[] {0, all(deep)}) {
                FrozenBits x = ofDeep(deep);
                int size = Integer.bitCount(set);
                due("freeze(" + set + ")", x.freeze(set), places(deep) - size);
                due("coded(" + set + ")", x.coded(set), set == 0 ? 0 : 1 << last(deep));
                due("hear(" + set + ", 1)", x.hear(set, 1), set == 0 ? 0 : 1 << last(deep));
                due("spoil(" + set + ", 0)", x.spoil(set, 0), size);
                due("check(1, " + set + ")", x.check(1, set), 0);
                due("CHECK", x.count(11), set);
                x.freeze(0);
                due("open(" + set + ", 0)", x.open(set, 0), set);
                due("word(" + set + ")", x.word(set), set);
            }
            for (int set : outside(0, all(deep))) {
                refused(deep, "freeze(" + set + ")", x -> x.freeze(set), OUTSIDE);
                refused(deep, "coded(" + set + ")", x -> x.coded(set), OUTSIDE);
                refused(deep, "hear(" + set + ", 1)", x -> x.hear(set, 1), OUTSIDE);
                refused(deep, "spoil(" + set + ", 0)", x -> x.spoil(set, 0), OUTSIDE);
                refused(deep, "check(1, " + set + ")", x -> x.check(1, set), OUTSIDE);
                refused(deep, "open(" + set + ", 0)", x -> x.open(set, 0), OUTSIDE);
                refused(deep, "word(" + set + ")", x -> x.word(set), OUTSIDE);
            }
        }
    }

    static void terms_bitKTellsWhetherKIsInASet() {
        for (int deep : DEEPS) {
            for (int k = 0; k < places(deep); k++) {
                FrozenBits x = ofDeep(deep);
                x.freeze(1 << k);
                due("word of all, all but " + k + " FREE", x.word(all(deep) >> 1), all(deep) - (1 << k));
                x.put(k, 5);
                due("spoil of all but " + k, x.spoil(all(deep) - (1 << k), 0), 0);
                due("spoil of " + k, x.spoil(1 << k, 1), 1);
                due("MEASURE at " + k, x.measure(k, 0), -5);
            }
        }
    }

    // ---- terms: which is first

    static void terms_ofLikeLossTheGreaterNumberIsBetter() {
        for (int deep : DEEPS) {
            for (int top = 0; top <= 10; top += 10) {
                FrozenBits x = ofDeep(deep);
                x.loss(top, 10);
                for (int i = 0; i < places(deep); i++) {
                    due("rank(" + i + ", 0)", x.rank(i, 0), last(deep) - i);
                    due("rank(" + i + ", 1)", x.rank(i, 1), last(deep) - i);
                    due("best(" + i + ")", x.best(i), (sets(deep) >> i) - 1);
                }
            }
        }
    }

    static void terms_ofLikeFinesTheLesserNumbersStay() {
        for (int deep : DEEPS) {
            for (int most = 1; most <= 8; most++) {
                FrozenBits x = ofDeep(deep);
                x.most(most);
                StringBuilder want = new StringBuilder();
                for (int row = 0; row < Math.min(most, sets(deep)); row++) {
                    want.append(row == 0 ? "" : " ").append(row).append(":0:1");
                }
                same("nothing came, MOST " + most, kept(x), want.toString());
            }
        }
    }

    static void terms_ofLikeFinesSoFarTheLesserNumbersSoFarStay() {
        // Bits 0 and 1 see 0: of rows 0 to 3 so far 0 and 1 stay. Both see -5 then, and 9 + 5 behind a 1.
        FrozenBits x = of(0, 0, -5, 9);
        x.most(2);
        same("MOST 2", kept(x), "4:0:1 5:0:1");
        // Of rows 0, 1, 2 so far those with bit 2 stay; all three see 14 then.
        x.most(3);
        same("MOST 3", kept(x), "4:0:1 5:0:1 6:0:1");
    }

    static void terms_keptAreInTheOrderOfFinesAtLast() {
        // Bit 0 sees -3; bit 1 sees -2 behind 0, -8 behind 1.
        FrozenBits x = of(3, -5);
        x.most(4);
        same("by FINES, not by numbers", kept(x), "3:0:1 2:3:1 0:5:1 1:8:1");
        // Bit 0 sees 3; bit 1 sees 6 behind 0, 0 behind 1: rows 1 and 3 are fined alike.
        x = of(3, 3);
        x.most(4);
        same("of like FINES the lesser number is first", kept(x), "0:0:1 1:3:1 3:3:1 2:6:1");
    }

    // ---- terms: what is seen, what is coded

    static void terms_seenIsZeroIfEitherIsZero() {
        int[][] pairs = {{0, 50}, {50, 0}, {0, -50}, {-50, 0}, {0, 0}};
        for (int[] pair : pairs) {
            due("SEEN of 0", of(pair).measure(0, 1), 0);
        }
    }

    static void terms_seenIsTheLesserOneWithoutSigns() {
        int[][] pairs = {{3, 5, 3}, {5, 3, 3}, {-3, -5, 3}, {-5, -3, 3}, {3, -5, -3}, {-5, 3, -3}, {-3, 5, -3},
            {5, -3, -3}, {4, 4, 4}, {4, -4, -4}, {-4, -4, 4}, {99, -99, -99}, {1, 99, 1}, {-99, 1, -1}};
        for (int[] pair : pairs) {
            due("SEEN of " + pair[0] + " and " + pair[1], of(pair[0], pair[1]).measure(0, 1), pair[2]);
        }
    }

    static void terms_seenOfTheSecondHalfIsAddedOrTakenAway() {
        FrozenBits x = of(3, -5);
        due("bit 0 is told 1: b less a", x.measure(1, 1), -8);
        x.freeze(1);
        due("bit 0 is told 0: b and a", x.measure(1, 1), -2);
    }

    static void terms_firstHalvesAreToldByTheirOwnBits() {
        // As all bits ahead are told rightly, all MEASURES speak alike for the last one.
        for (int deep : DEEPS) {
            for (int bit = 0; bit < places(deep); bit++) {
                FrozenBits x = ofDeep(deep);
                x.hear(1 << bit, 5);
                due("READ of bit " + bit, x.read(0), 1 << bit);
                int strong = 5 * places(deep);
                due("SEEN of the last, " + bit + " being 1", x.measure(last(deep), 1),
                    bit == last(deep) ? -strong : strong);
            }
        }
    }

    static void terms_theGreatestAndTheLeastThatIsSeen() {
        for (int deep : DEEPS) {
            FrozenBits x = ofDeep(deep);
            x.hear(0, 99);
            due("all tell 0", x.measure(last(deep), 1), 99 * places(deep));
            x.hear(1 << last(deep), 99);
            due("all tell 1", x.measure(last(deep), 1), -99 * places(deep));
            x.freeze(all(deep));
            due("the FINE of all FROZEN ones", x.read(1), 99 * places(deep));
            due("the FINE of all FROZEN ones", x.kept(0, 1), 99 * places(deep));
        }
    }

    static void terms_codedOfTheShortestRows() {
        FrozenBits x = ofDeep(1);
        int[] coded = {0, 1, 3, 2};
        for (int row = 0; row < 4; row++) {
            due("coded(" + row + ")", x.coded(row), coded[row]);
        }
    }

    static void terms_anEmptyCheckAlwaysHolds() {
        FrozenBits x = ofDeep(1);
        for (int row = 0; row < 4; row++) {
            x.hear(row, 1);
            due("READ " + row, x.read(0), row);
            due("HOLDS " + row, x.read(3), 1);
        }
    }

    static void terms_whatIsToldIsToldAsThingsAreThen() {
        FrozenBits x = of(3, -5);
        x.most(4);
        due("kept", x.kept(0, 0), 3);
        x.put(1, 5);
        due("kept behind put", x.kept(0, 0), 0);
        x.check(0, 3);
        due("which of KEPT behind check", x.kept(1, 2), 0);
        x.check(0, 0);
        due("which of KEPT behind check", x.kept(1, 2), 1);
        due("light", x.light(0), 1);
        x.freeze(1);
        due("light behind freeze", x.light(0), 2);
        due("kept behind freeze", x.kept(-1, 0), 2);
        x.loss(0, 3);
        due("split behind loss", x.split(0, 1), 1);
    }

    // ---- promise 1

    static void promise01_eightPlaces() {
        FrozenBits x = new FrozenBits();
        due("DEEP", x.count(0), 3);
        due("the last PLACE", x.measure(7, 0), 0);
        due("one PLACE more", x.measure(8, 0), GONE + UNKNOWN);
        due("the greatest ROW", x.coded(255), 128);
        due("one ROW more", x.coded(256), OUTSIDE);
    }

    static void promise01_lossOfOneHalf() {
        FrozenBits x = new FrozenBits();
        due("TOP", x.count(1), 1);
        due("OF", x.count(2), 2);
        due("the worst bit", x.split(0, 0), 255);
        due("the worst bit", x.split(0, 1), 256);
        due("the best bit", x.split(7, 0), 1);
        due("the best bit", x.split(7, 1), 256);
        due("the best bit", x.rank(0, 0), 7);
    }

    static void promise01_nothingIsFrozen() {
        FrozenBits x = new FrozenBits();
        due("FROZEN", x.count(3), 0);
        due("FREE", x.count(4), 8);
        due("word(255)", x.word(255), 255);
        same("light", light(x), "1 8");
        same("fragile", fragile(x), "1 8 1");
        due("open of all", x.open(255, 0), 255);
    }

    static void promise01_nothingCame() {
        FrozenBits x = new FrozenBits();
        same("MEASURES", measures(x), "0 0 0 0 0 0 0 0");
        same("SEEN", seen(x), "0 0 0 0 0 0 0 0");
        same("READ", read(x), "0 0 0 1");
    }

    static void promise01_oneIsKeptAndChosen() {
        FrozenBits x = new FrozenBits();
        due("MOST", x.count(5), 1);
        due("kept(-1, 0)", x.kept(-1, 0), 1);
        same("KEPT", kept(x), "0:0:1");
        same("CHOSEN", chosen(x), "0 0 0");
    }

    static void promise01_allChecksAreEmpty() {
        FrozenBits x = new FrozenBits();
        due("CHECK 0", x.count(10), 0);
        due("CHECK 1", x.count(11), 0);
        due("CHECK 2", x.count(12), 0);
    }

    static void promise01_noImageIsKept() {
        FrozenBits x = new FrozenBits();
        due("IMAGES", x.count(6), 0);
        due("restore(0)", x.restore(0), STATE);
        due("restore(1)", x.restore(1), STATE);
    }

    static void promise01_eachObjectIsByItself() {
        FrozenBits x = new FrozenBits();
        String fresh = story(new FrozenBits());
        for (int deep : DEEPS) {
            rich(deep).image(0);
        }
        same("another one", story(x), fresh);
        same("one made later", story(new FrozenBits()), fresh);
    }

    // ---- promise 2

    static void promise02_fromEachToEach() {
        for (int from : DEEPS) {
            for (int to : DEEPS) {
                FrozenBits x = ofDeep(from);
                due("deep(" + to + ")", x.deep(to), from);
                due("DEEP", x.count(0), to);
                due("FREE", x.count(4), places(to));
                due("the last PLACE", x.put(last(to), 1), 0);
                due("one PLACE more", x.put(places(to), 1), GONE + UNKNOWN);
            }
        }
    }

    static void promise02_tooSmallOrTooLarge() {
        for (int deep : DEEPS) {
            for (int v : outside(1, 4)) {
                refused(deep, "deep(" + v + ")", x -> x.deep(v), OUTSIDE);
            }
        }
    }

    static void promise02_frozenCameAndChecksAreEmptyThen() {
        for (int from : DEEPS) {
            for (int to : DEEPS) {
                FrozenBits x = rich(from);
                x.deep(to);
                due("FROZEN", x.count(3), 0);
                same("MEASURES", measures(x), measures(ofDeep(to)));
                for (int check = 0; check <= 2; check++) {
                    due("CHECK " + check, x.count(10 + check), 0);
                }
            }
        }
    }

    static void promise02_asItWasEmptiesToo() {
        for (int deep : DEEPS) {
            FrozenBits x = rich(deep);
            due("deep as it was", x.deep(deep), deep);
            same("facts", facts(x), deep + " 2 6 0 " + places(deep) + " 5 2 0 0 0 " + measures(ofDeep(deep)));
        }
    }

    static void promise02_whatCameAtLostPlacesDoesNotComeBack() {
        FrozenBits x = ofDeep(4);
        x.hear(65535, 9);
        x.deep(1);
        x.deep(4);
        same("MEASURES", measures(x), measures(ofDeep(4)));
    }

    static void promise02_lossMostAndImagesStay() {
        for (int from : DEEPS) {
            for (int to : DEEPS) {
                FrozenBits x = rich(from);
                x.deep(to);
                due("TOP", x.count(1), 2);
                due("OF", x.count(2), 6);
                due("MOST", x.count(5), 5);
                due("IMAGES", x.count(6), 2);
            }
        }
    }

    // ---- promise 3

    static void promise03_allThatCanBe() {
        FrozenBits x = new FrozenBits();
        int was = 2;
        for (int of = 2; of <= 10; of++) {
            for (int top = 0; top <= of; top++) {
                due("loss(" + top + ", " + of + ")", x.loss(top, of), was);
                due("TOP", x.count(1), top);
                due("OF", x.count(2), of);
                was = of;
            }
        }
    }

    static void promise03_ofTooSmallOrTooLarge() {
        for (int deep : DEEPS) {
            for (int of : outside(2, 10)) {
                refused(deep, "loss(0, " + of + ")", x -> x.loss(0, of), OUTSIDE);
                refused(deep, "loss(1, " + of + ")", x -> x.loss(1, of), OUTSIDE);
                refused(deep, "loss(" + of + ", " + of + ")", x -> x.loss(of, of), OUTSIDE);
            }
        }
    }

    static void promise03_topBelowZeroOrAboveOf() {
        for (int of = 2; of <= 10; of++) {
            int lower = of;
            for (int top : outside(0, of)) {
                refused(2, "loss(" + top + ", " + of + ")", x -> x.loss(top, lower), OUTSIDE);
            }
        }
    }

    static void promise03_topIsHeldAgainstTheNewOf() {
        FrozenBits x = new FrozenBits();
        due("loss(9, 10)", x.loss(9, 10), 2);
        due("loss(9, 8)", x.loss(9, 8), OUTSIDE);
        due("TOP", x.count(1), 9);
        due("OF", x.count(2), 10);
    }

    static void promise03_notInLowestTerms() {
        FrozenBits x = new FrozenBits();
        x.loss(5, 10);
        due("TOP", x.count(1), 5);
        due("OF", x.count(2), 10);
        x.loss(0, 4);
        due("TOP of nothing", x.count(1), 0);
        due("OF of nothing", x.count(2), 4);
    }

    // ---- promise 4

    static void promise04_zeroIsZeroByOne() {
        for (int deep : DEEPS) {
            for (int of = 2; of <= 10; of++) {
                FrozenBits x = ofDeep(deep);
                x.loss(0, of);
                for (int bit = 0; bit < places(deep); bit++) {
                    due("split(" + bit + ", 0)", x.split(bit, 0), 0);
                    due("split(" + bit + ", 1)", x.split(bit, 1), 1);
                }
            }
        }
    }

    static void promise04_allLostIsOneByOne() {
        for (int deep : DEEPS) {
            for (int of = 2; of <= 10; of++) {
                FrozenBits x = ofDeep(deep);
                x.loss(of, of);
                for (int bit = 0; bit < places(deep); bit++) {
                    due("split(" + bit + ", 0)", x.split(bit, 0), 1);
                    due("split(" + bit + ", 1)", x.split(bit, 1), 1);
                }
            }
        }
    }

    static void promise04_lowestTerms() {
        int[][] likes = {{1, 2, 5, 10}, {1, 2, 2, 4}, {2, 3, 6, 9}, {4, 5, 8, 10}, {1, 3, 3, 9}};
        for (int deep : DEEPS) {
            for (int[] like : likes) {
                FrozenBits x = ofDeep(deep);
                FrozenBits y = ofDeep(deep);
                x.loss(like[0], like[1]);
                y.loss(like[2], like[3]);
                for (int bit = 0; bit < places(deep); bit++) {
                    due("upper of " + bit, y.split(bit, 0), x.split(bit, 0));
                    due("lower of " + bit, y.split(bit, 1), x.split(bit, 1));
                }
            }
        }
        FrozenBits x = ofDeep(1);
        x.loss(2, 4);
        due("12 by 16", x.split(0, 0), 3);
        due("12 by 16", x.split(0, 1), 4);
    }

    static void promise04_theGreatestNumbers() {
        FrozenBits x = ofDeep(4);
        x.loss(1, 10);
        due("1 less 9 to the power of 16", x.split(0, 0), 8146979811148159L);
        due("10 to the power of 16", x.split(0, 1), 10000000000000000L);
        due("1 to the power of 16", x.split(15, 0), 1);
        due("10 to the power of 16", x.split(15, 1), 10000000000000000L);
        x.loss(9, 10);
        due("all but one", x.split(0, 0), 9999999999999999L);
    }

    static void promise04_theBitOfTheGreatestValueFirst() {
        FrozenBits x = ofDeep(2);
        due("bit 1: 3 by 4, times itself", x.split(1, 0), 9);
        due("bit 2: 1 by 4, twice less its square", x.split(2, 0), 7);
    }

    static void promise04_noSuchBit() {
        for (int deep : DEEPS) {
            for (int bit : outside(0, last(deep))) {
                refused(deep, "split(" + bit + ", 0)", x -> x.split(bit, 0), UNKNOWN);
                refused(deep, "split(" + bit + ", 1)", x -> x.split(bit, 1), UNKNOWN);
            }
        }
    }

    static void promise04_partIsZeroOrOne() {
        for (int deep : DEEPS) {
            for (int part : outside(0, 1)) {
                refused(deep, "split(0, " + part + ")", x -> x.split(0, part), OUTSIDE);
                refused(deep, "split(last, " + part + ")", x -> x.split(last(deep), part), OUTSIDE);
            }
        }
    }

    // ---- promise 5

    static void promise05_theBestAndTheWorst() {
        for (int deep : DEEPS) {
            for (int top = 0; top <= 10; top++) {
                FrozenBits x = ofDeep(deep);
                x.loss(top, 10);
                due("the best", x.rank(0, 0), last(deep));
                due("the worst", x.rank(last(deep), 0), 0);
                due("better than the best", x.rank(last(deep), 1), 0);
                due("better than the worst", x.rank(0, 1), last(deep));
            }
        }
    }

    static void promise05_eachBitHasItsRank() {
        for (int deep : DEEPS) {
            FrozenBits x = ofDeep(deep);
            for (int i = 0; i < places(deep); i++) {
                due("rank of rank " + i, x.rank(x.rank(i, 0), 1), i);
            }
        }
    }

    static void promise05_theBitOfARankAndTheRankOfABit() {
        FrozenBits x = ofDeep(4);
        due("the fifth best", x.rank(4, 0), 7);
        due("better than bit 7", x.rank(7, 1), 4);
        due("the eighth best", x.rank(7, 0), 9);
        due("better than bit 4", x.rank(4, 1), 12);
    }

    static void promise05_frozenOnesAreRankedToo() {
        FrozenBits x = new FrozenBits();
        x.freeze(255);
        due("the best", x.rank(0, 0), 7);
        due("better than bit 3", x.rank(3, 1), 3);
    }

    static void promise05_noSuchPlace() {
        for (int deep : DEEPS) {
            for (int i : outside(0, last(deep))) {
                refused(deep, "rank(" + i + ", 0)", x -> x.rank(i, 0), UNKNOWN);
                refused(deep, "rank(" + i + ", 1)", x -> x.rank(i, 1), UNKNOWN);
            }
        }
    }

    static void promise05_whatIsZeroOrOne() {
        for (int deep : DEEPS) {
            for (int what : outside(0, 1)) {
                refused(deep, "rank(0, " + what + ")", x -> x.rank(0, what), OUTSIDE);
                refused(deep, "rank(last, " + what + ")", x -> x.rank(last(deep), what), OUTSIDE);
            }
        }
    }

    // ---- promise 6

    static void promise06_nothingFrozen() {
        for (int deep : DEEPS) {
            FrozenBits x = rich(deep);
            due("freeze(0)", x.freeze(0), places(deep));
            due("FROZEN", x.count(3), 0);
            due("FREE", x.count(4), places(deep));
        }
    }

    static void promise06_allFrozen() {
        for (int deep : DEEPS) {
            FrozenBits x = rich(deep);
            due("freeze of all", x.freeze(all(deep)), 0);
            due("FROZEN", x.count(3), all(deep));
            due("FREE", x.count(4), 0);
        }
    }

    static void promise06_inPlaceOfWhatWasFrozen() {
        for (int deep : DEEPS) {
            FrozenBits x = ofDeep(deep);
            x.freeze(1);
            due("freeze of the last", x.freeze(1 << last(deep)), last(deep));
            due("FROZEN", x.count(3), 1 << last(deep));
        }
    }

    static void promise06_tooSmallOrTooLarge() {
        for (int deep : DEEPS) {
            for (int set : outside(0, all(deep))) {
                refused(deep, "freeze(" + set + ")", x -> x.freeze(set), OUTSIDE);
            }
        }
    }

    static void promise06_nothingElseChanges() {
        for (int deep : DEEPS) {
            FrozenBits x = rich(deep);
            x.freeze(all(deep));
            x.freeze(2);
            same("all behind it", story(x), story(rich(deep)));
        }
    }

    // ---- promise 7

    static void promise07_noneIsBest() {
        for (int deep : DEEPS) {
            FrozenBits x = rich(deep);
            due("best(0)", x.best(0), all(deep));
            due("FROZEN", x.count(3), all(deep));
            due("FREE", x.count(4), 0);
        }
    }

    static void promise07_allAreBest() {
        for (int deep : DEEPS) {
            FrozenBits x = rich(deep);
            due("best(N)", x.best(places(deep)), 0);
            due("FROZEN", x.count(3), 0);
            due("FREE", x.count(4), places(deep));
        }
    }

    static void promise07_oneAndAllButOne() {
        for (int deep : DEEPS) {
            FrozenBits x = rich(deep);
            due("best(1)", x.best(1), all(deep) >> 1);
            due("best(N less 1)", x.best(last(deep)), 1);
        }
    }

    static void promise07_ofLikeOnesTheGreaterNumbersStayFree() {
        FrozenBits x = new FrozenBits();
        due("best(4) by LOSS 1 by 2", x.best(4), 23);
        x.loss(0, 2);
        due("best(4), nothing is lost", x.best(4), 15);
        x.loss(2, 2);
        due("best(4), all is lost", x.best(4), 15);
    }

    static void promise07_tooSmallOrTooLarge() {
        for (int deep : DEEPS) {
            for (int n : outside(0, places(deep))) {
                refused(deep, "best(" + n + ")", x -> x.best(n), OUTSIDE);
            }
        }
    }

    // ---- promise 8

    static void promise08_theEmptyAndTheFullRow() {
        for (int deep : DEEPS) {
            FrozenBits x = ofDeep(deep);
            due("coded(0)", x.coded(0), 0);
            due("coded of all", x.coded(all(deep)), 1 << last(deep));
            due("coded of the last", x.coded(1 << last(deep)), all(deep));
            due("coded of the first", x.coded(1), 1);
        }
    }

    static void promise08_tooSmallOrTooLarge() {
        for (int deep : DEEPS) {
            for (int row : outside(0, all(deep))) {
                refused(deep, "coded(" + row + ")", x -> x.coded(row), OUTSIDE);
            }
        }
    }

    static void promise08_noMatterWhatIsFrozen() {
        for (int deep : DEEPS) {
            FrozenBits x = ofDeep(deep);
            x.freeze(all(deep));
            due("coded of all, all FROZEN", x.coded(all(deep)), 1 << last(deep));
        }
    }

    static void promise08_itChangesNothing() {
        for (int deep : DEEPS) {
            FrozenBits x = rich(deep);
            x.coded(all(deep));
            same("all behind it", story(x), story(rich(deep)));
        }
    }

    // ---- promise 9

    static void promise09_nothingFree() {
        for (int deep : DEEPS) {
            FrozenBits x = ofDeep(deep);
            x.freeze(all(deep));
            due("word(0)", x.word(0), 0);
            for (int v : outside(0, 0)) {
                due("word(" + v + ")", x.word(v), OUTSIDE);
            }
        }
    }

    static void promise09_nothingFrozen() {
        for (int deep : DEEPS) {
            FrozenBits x = ofDeep(deep);
            due("word(0)", x.word(0), 0);
            due("word(1)", x.word(1), 1);
            due("word of all", x.word(all(deep)), all(deep));
            due("one more", x.word(sets(deep)), OUTSIDE);
        }
    }

    static void promise09_oneFree() {
        for (int deep : DEEPS) {
            for (int bit = 0; bit < places(deep); bit++) {
                FrozenBits x = ofDeep(deep);
                x.freeze(all(deep) - (1 << bit));
                due("word(0), " + bit + " FREE", x.word(0), 0);
                due("word(1), " + bit + " FREE", x.word(1), 1 << bit);
                due("word(2), " + bit + " FREE", x.word(2), OUTSIDE);
            }
        }
    }

    static void promise09_tooSmallOrTooLarge() {
        for (int deep : DEEPS) {
            int free = last(deep);
            FrozenBits x = rich(deep);
            due("the greatest", x.word((1 << free) - 1), all(deep) - 2);
            for (int v : outside(0, (1 << free) - 1)) {
                refused(deep, "word(" + v + ")", y -> y.word(v), OUTSIDE);
            }
        }
    }

    // ---- promise 10

    static void promise10_nothingFree() {
        for (int deep : DEEPS) {
            FrozenBits x = ofDeep(deep);
            x.freeze(all(deep));
            same("light", light(x), "-6 -6");
            x.best(0);
            same("light behind best(0)", light(x), "-6 -6");
        }
    }

    static void promise10_nothingFrozen() {
        for (int deep : DEEPS) {
            same("light", light(ofDeep(deep)), "1 " + places(deep));
        }
    }

    static void promise10_oneFree() {
        for (int deep : DEEPS) {
            for (int bit = 0; bit < places(deep); bit++) {
                FrozenBits x = ofDeep(deep);
                x.freeze(all(deep) - (1 << bit));
                same("light, " + bit + " FREE", light(x), (1 << Integer.bitCount(bit)) + " 1");
            }
        }
    }

    static void promise10_oneFrozen() {
        // Without bit 0 the WEIGHT is even, and each two PLACES are CODED of a WORD.
        for (int deep : DEEPS) {
            FrozenBits x = ofDeep(deep);
            x.freeze(1);
            same("light, 0 FROZEN", light(x), "2 " + places(deep) * last(deep) / 2);
        }
    }

    static void promise10_whatIsZeroOrOne() {
        for (int deep : DEEPS) {
            for (int what : outside(0, 1)) {
                refused(deep, "light(" + what + ")", x -> x.light(what), OUTSIDE);
            }
        }
    }

    // ---- promise 11

    static void promise11_theFirstAndTheLastPlace() {
        for (int deep : DEEPS) {
            FrozenBits x = ofDeep(deep);
            due("put(0, 5)", x.put(0, 5), 0);
            due("put(last, -6)", x.put(last(deep), -6), 0);
            due("put(0, 7)", x.put(0, 7), 5);
            due("put(last, 0)", x.put(last(deep), 0), -6);
        }
    }

    static void promise11_noSuchPlace() {
        for (int deep : DEEPS) {
            for (int place : outside(0, last(deep))) {
                refused(deep, "put(" + place + ", 0)", x -> x.put(place, 0), GONE + UNKNOWN);
            }
        }
    }

    static void promise11_theGreatestAndTheLeastMeasure() {
        FrozenBits x = new FrozenBits();
        due("put(3, 99)", x.put(3, 99), 0);
        due("put(3, -99)", x.put(3, -99), 99);
        due("put(3, 0)", x.put(3, 0), -99);
        due("MEASURE", x.measure(3, 0), 0);
    }

    static void promise11_measureTooSmallOrTooLarge() {
        for (int deep : DEEPS) {
            for (int v : outside(-99, 99)) {
                refused(deep, "put(0, " + v + ")", x -> x.put(0, v), GONE + OUTSIDE);
                refused(deep, "put(last, " + v + ")", x -> x.put(last(deep), v), GONE + OUTSIDE);
            }
        }
    }

    // ---- promise 12

    static void promise12_theEmptyAndTheFullRow() {
        for (int deep : DEEPS) {
            FrozenBits x = rich(deep);
            due("hear(0, 4)", x.hear(0, 4), 0);
            for (int place = 0; place < places(deep); place++) {
                due("MEASURE at " + place, x.measure(place, 0), 4);
            }
            due("hear of all", x.hear(all(deep), 4), 1 << last(deep));
            for (int place = 0; place < places(deep); place++) {
                due("MEASURE at " + place, x.measure(place, 0), place == last(deep) ? -4 : 4);
            }
        }
    }

    static void promise12_strongOneAnd99() {
        for (int deep : DEEPS) {
            for (int strong : new int[] {1, 99}) {
                FrozenBits x = ofDeep(deep);
                due("hear(1, " + strong + ")", x.hear(1, strong), 1);
                due("where it has 1", x.measure(0, 0), -strong);
                due("where it has 0", x.measure(last(deep), 0), strong);
            }
        }
    }

    static void promise12_strongTooSmallOrTooLarge() {
        for (int deep : DEEPS) {
            for (int strong : outside(1, 99)) {
                refused(deep, "hear(0, " + strong + ")", x -> x.hear(0, strong), OUTSIDE);
                refused(deep, "hear(all, " + strong + ")", x -> x.hear(all(deep), strong), OUTSIDE);
            }
        }
    }

    static void promise12_rowTooSmallOrTooLarge() {
        for (int deep : DEEPS) {
            for (int row : outside(0, all(deep))) {
                refused(deep, "hear(" + row + ", 1)", x -> x.hear(row, 1), OUTSIDE);
                refused(deep, "hear(" + row + ", 99)", x -> x.hear(row, 99), OUTSIDE);
                refused(deep, "hear(" + row + ", 0)", x -> x.hear(row, 0), OUTSIDE);
            }
        }
    }

    static void promise12_aRowThatIsNoWord() {
        for (int deep : DEEPS) {
            FrozenBits x = ofDeep(deep);
            x.freeze(all(deep));
            due("hear of the last", x.hear(1 << last(deep), 2), all(deep));
            due("MEASURE", x.measure(0, 0), -2);
        }
    }

    // ---- promise 13

    static void promise13_theEmptySet() {
        for (int deep : DEEPS) {
            for (int how = 0; how <= 1; how++) {
                FrozenBits x = rich(deep);
                due("spoil(0, " + how + ")", x.spoil(0, how), 0);
                same("all behind it", story(x), story(rich(deep)));
            }
        }
    }

    static void promise13_theFullSet() {
        for (int deep : DEEPS) {
            FrozenBits x = ofDeep(deep);
            x.hear(1, 99);
            due("spoil(all, 1)", x.spoil(all(deep), 1), places(deep));
            due("the first", x.measure(0, 0), 99);
            due("the last", x.measure(last(deep), 0), -99);
            due("spoil(all, 0)", x.spoil(all(deep), 0), places(deep));
            same("MEASURES", measures(x), measures(ofDeep(deep)));
            due("spoil(all, 0) again", x.spoil(all(deep), 0), 0);
        }
    }

    static void promise13_aMeasureThatIsZero() {
        FrozenBits x = of(0, 7, 0, -7);
        due("spoil(5, 1)", x.spoil(5, 1), 0);
        same("MEASURES", measures(x), "0 7 0 -7");
        due("spoil(15, 1)", x.spoil(15, 1), 2);
        same("MEASURES", measures(x), "0 -7 0 7");
        due("spoil(3, 0)", x.spoil(3, 0), 1);
        same("MEASURES", measures(x), "0 0 0 7");
        due("spoil(7, 0)", x.spoil(7, 0), 0);
    }

    static void promise13_setTooSmallOrTooLarge() {
        for (int deep : DEEPS) {
            for (int set : outside(0, all(deep))) {
                refused(deep, "spoil(" + set + ", 0)", x -> x.spoil(set, 0), OUTSIDE);
                refused(deep, "spoil(" + set + ", 1)", x -> x.spoil(set, 1), OUTSIDE);
                refused(deep, "spoil(" + set + ", 2)", x -> x.spoil(set, 2), OUTSIDE);
            }
        }
    }

    static void promise13_howIsZeroOrOne() {
        for (int deep : DEEPS) {
            for (int how : outside(0, 1)) {
                refused(deep, "spoil(all, " + how + ")", x -> x.spoil(all(deep), how), OUTSIDE);
                refused(deep, "spoil(0, " + how + ")", x -> x.spoil(0, how), OUTSIDE);
            }
        }
    }

    // ---- promise 14

    static void promise14_noSuchPlace() {
        for (int deep : DEEPS) {
            for (int place : outside(0, last(deep))) {
                refused(deep, "measure(" + place + ", 0)", x -> x.measure(place, 0), GONE + UNKNOWN);
                refused(deep, "measure(" + place + ", 1)", x -> x.measure(place, 1), GONE + UNKNOWN);
            }
        }
    }

    static void promise14_whatIsZeroOrOne() {
        for (int deep : DEEPS) {
            for (int what : outside(0, 1)) {
                refused(deep, "measure(0, " + what + ")", x -> x.measure(0, what), GONE + OUTSIDE);
                refused(deep, "measure(last, " + what + ")", x -> x.measure(last(deep), what), GONE + OUTSIDE);
            }
        }
    }

    static void promise14_measuresAtTheBounds() {
        for (int deep : DEEPS) {
            FrozenBits x = ofDeep(deep);
            x.put(0, -99);
            x.put(last(deep), 99);
            due("the first", x.measure(0, 0), -99);
            due("the last", x.measure(last(deep), 0), 99);
        }
    }

    static void promise14_seenAsReadTellsIt() {
        // Bit 0 sees -3. READ tells it 1, or 0 if it is FROZEN; then it is told so to bit 1.
        FrozenBits x = of(3, -5);
        same("FREE", seen(x), "-3 -8");
        x.freeze(1);
        same("FROZEN", seen(x), "-3 -2");
        x.freeze(3);
        same("both FROZEN", seen(x), "-3 -2");
    }

    static void promise14_seenWhereNothingCame() {
        for (int deep : DEEPS) {
            FrozenBits x = ofDeep(deep);
            same("nothing came", seen(x), measures(x));
            x.put(last(deep), -9);
            due("one came: the last bit sees it", x.measure(last(deep), 1), -9);
            due("one came: the first bit sees nothing", x.measure(0, 1), 0);
        }
    }

    // ---- promise 15

    static void promise15_nothingCame() {
        for (int deep : DEEPS) {
            same("read", read(ofDeep(deep)), "0 0 0 1");
        }
    }

    static void promise15_seenZeroIsToldZero() {
        FrozenBits x = of(-4, 4);
        // Bit 0 sees -4 and is 1: then 4 less -4.
        same("SEEN below 0", read(x), "1 0 0 1");
        x.freeze(1);
        same("SEEN is 0 behind a FROZEN bit", read(x), "0 4 1 1");
        due("SEEN", x.measure(1, 1), 0);
    }

    static void promise15_allFrozen() {
        for (int deep : DEEPS) {
            FrozenBits x = ofDeep(deep);
            x.hear(1 << last(deep), 1);
            x.freeze(all(deep));
            int n = places(deep);
            same("read", read(x), "0 " + n + " " + n + " 1");
        }
    }

    static void promise15_freeBitsAreNotFined() {
        for (int deep : DEEPS) {
            FrozenBits x = ofDeep(deep);
            x.hear(all(deep), 99);
            same("read", read(x), all(deep) + " 0 0 1");
        }
    }

    static void promise15_aMeasureThatIsZeroIsNotOther() {
        // Bit 0 sees 0, bit 1 sees -6: the ROW 2, CODED 3; only PLACE 1 tells anything.
        FrozenBits x = of(0, -6);
        same("read", read(x), "2 0 0 1");
        // FROZEN: the ROW 0, CODED 0; only PLACE 1 tells something else.
        x.freeze(2);
        same("read", read(x), "0 6 1 1");
    }

    static void promise15_whetherItHolds() {
        for (int deep : DEEPS) {
            FrozenBits x = ofDeep(deep);
            x.hear(3, 5);
            for (int check = 0; check <= 2; check++) {
                int[][] sets = {{1, 0}, {2, 0}, {3, 1}, {all(deep), 1}, {all(deep) - 1, 0}, {0, 1}};
                for (int[] set : sets) {
                    x.check(check, set[0]);
                    due("read(3) by CHECK " + check + " of " + set[0], x.read(3), set[1]);
                }
            }
        }
    }

    static void promise15_whatIsZeroToThree() {
        for (int deep : DEEPS) {
            for (int what : outside(0, 3)) {
                refused(deep, "read(" + what + ")", x -> x.read(what), OUTSIDE);
            }
        }
    }

    // ---- promise 16

    static void promise16_oneToEight() {
        FrozenBits x = new FrozenBits();
        int was = 1;
        for (int most = 1; most <= 8; most++) {
            due("most(" + most + ")", x.most(most), was);
            due("MOST", x.count(5), most);
            was = most;
        }
        due("most(8) as it was", x.most(8), 8);
        due("most(1)", x.most(1), 8);
    }

    static void promise16_tooSmallOrTooLarge() {
        for (int deep : DEEPS) {
            for (int v : outside(1, 8)) {
                refused(deep, "most(" + v + ")", x -> x.most(v), OUTSIDE);
            }
        }
    }

    static void promise16_soManyAreKept() {
        for (int deep : DEEPS) {
            for (int free = 0; free <= places(deep); free++) {
                FrozenBits x = ofDeep(deep);
                x.freeze((1 << (places(deep) - free)) - 1);
                for (int most = 1; most <= 8; most++) {
                    x.most(most);
                    due(free + " FREE, MOST " + most, x.kept(-1, 0), Math.min(most, 1 << free));
                }
            }
        }
    }

    // ---- promise 17

    static void promise17_howManyThereAre() {
        for (int deep : DEEPS) {
            FrozenBits x = ofDeep(deep);
            for (int what = 0; what <= 2; what++) {
                due("kept(-1, " + what + "), MOST 1", x.kept(-1, what), 1);
            }
            x.most(8);
            for (int what = 0; what <= 2; what++) {
                due("kept(-1, " + what + "), MOST 8", x.kept(-1, what), deep == 1 ? 4 : 8);
            }
            x.freeze(all(deep));
            for (int what = 0; what <= 2; what++) {
                due("kept(-1, " + what + "), nothing FREE", x.kept(-1, what), 1);
            }
        }
    }

    static void promise17_whatMattersEvenForHowMany() {
        for (int deep : DEEPS) {
            for (int what : outside(0, 2)) {
                refused(deep, "kept(-1, " + what + ")", x -> x.kept(-1, what), OUTSIDE);
            }
        }
    }

    static void promise17_belowMinusOne() {
        for (int deep : DEEPS) {
            for (int what = 0; what <= 2; what++) {
                int asked = what;
                for (int i : new int[] {-2, -3, -32, -33, Integer.MIN_VALUE, Integer.MIN_VALUE + 1}) {
                    refused(deep, "kept(" + i + ", " + what + ")", x -> x.kept(i, asked), NONE);
                }
            }
        }
    }

    static void promise17_asManyAsThereAre() {
        for (int deep : DEEPS) {
            for (int most = 1; most <= 8; most++) {
                FrozenBits x = ofDeep(deep);
                x.most(most);
                int there = Math.min(most, sets(deep));
                for (int what = 0; what <= 2; what++) {
                    due("the last one", x.kept(there - 1, what), what == 0 ? there - 1 : what == 1 ? 0 : 1);
                    due("one more", x.kept(there, what), NONE);
                    due("two more", x.kept(there + 1, what), NONE);
                    due("32 more", x.kept(there + 32, what), NONE);
                    due("far more", x.kept(Integer.MAX_VALUE, what), NONE);
                }
            }
        }
    }

    static void promise17_fewerThanMost() {
        FrozenBits x = of(3, -5);
        x.most(8);
        x.freeze(1);
        same("two of eight", kept(x), "2:3:1 0:5:1");
        due("kept(2, 0)", x.kept(2, 0), NONE);
        x.freeze(3);
        same("one of eight", kept(x), "0:5:1");
        due("kept(1, 0)", x.kept(1, 0), NONE);
    }

    static void promise17_seenZeroFinesNeither() {
        FrozenBits x = of(4, -4);
        x.freeze(1);
        x.most(2);
        // Bit 0 sees -4 and is FROZEN, bit 1 sees 0.
        same("both are fined alike", kept(x), "0:4:1 2:4:1");
    }

    static void promise17_whatIsZeroToTwo() {
        for (int deep : DEEPS) {
            for (int what : outside(0, 2)) {
                refused(deep, "kept(0, " + what + ")", x -> x.kept(0, what), OUTSIDE);
                refused(deep, "kept(-2, " + what + ")", x -> x.kept(-2, what), OUTSIDE);
                refused(deep, "kept(99, " + what + ")", x -> x.kept(99, what), OUTSIDE);
            }
        }
    }

    // ---- promise 18

    static void promise18_noneHolds() {
        for (int deep : DEEPS) {
            FrozenBits x = ofDeep(deep);
            x.hear(1, 3);
            x.check(2, 1);
            same("chosen", chosen(x), "-6 -6 -6");
            x.check(2, 0);
            same("chosen, the CHECK is empty", chosen(x), "1 0 0");
        }
    }

    static void promise18_onlyTheLastHolds() {
        FrozenBits x = of(3, -5);
        x.most(4);
        same("KEPT", kept(x), "3:0:1 2:3:1 0:5:1 1:8:1");
        x.check(1, 2);
        x.most(3);
        same("the last of three", chosen(x), "0 2 5");
        x.most(2);
        same("not among two", chosen(x), "-6 -6 -6");
    }

    static void promise18_theFirstThatHolds() {
        FrozenBits x = of(3, -5);
        x.most(4);
        same("all hold", chosen(x), "3 0 0");
        x.check(0, 1);
        same("the second holds, and the third", chosen(x), "2 1 3");
    }

    static void promise18_whatIsZeroToTwo() {
        for (int deep : DEEPS) {
            for (int what : outside(0, 2)) {
                refused(deep, "chosen(" + what + ")", x -> x.chosen(what), OUTSIDE);
            }
        }
    }

    // ---- promise 19

    static void promise19_noSuchCheck() {
        for (int deep : DEEPS) {
            for (int check : outside(0, 2)) {
                refused(deep, "check(" + check + ", 0)", x -> x.check(check, 0), UNKNOWN);
                refused(deep, "check(" + check + ", -1)", x -> x.check(check, -1), UNKNOWN);
            }
        }
    }

    static void promise19_setTooSmallOrTooLarge() {
        for (int deep : DEEPS) {
            for (int set : outside(0, all(deep))) {
                refused(deep, "check(0, " + set + ")", x -> x.check(0, set), OUTSIDE);
                refused(deep, "check(2, " + set + ")", x -> x.check(2, set), OUTSIDE);
            }
        }
    }

    static void promise19_theEmptyAndTheFullSet() {
        for (int deep : DEEPS) {
            FrozenBits x = ofDeep(deep);
            for (int check = 0; check <= 2; check++) {
                due("check(" + check + ", all)", x.check(check, all(deep)), 0);
                due("CHECK", x.count(10 + check), all(deep));
                due("check(" + check + ", 0)", x.check(check, 0), all(deep));
                due("CHECK", x.count(10 + check), 0);
            }
        }
    }

    static void promise19_eachCheckIsByItself() {
        FrozenBits x = new FrozenBits();
        x.check(0, 1);
        x.check(1, 2);
        x.check(2, 4);
        due("CHECK 0", x.count(10), 1);
        due("CHECK 1", x.count(11), 2);
        due("CHECK 2", x.count(12), 4);
    }

    // ---- promise 20

    static void promise20_nothingLost() {
        for (int deep : DEEPS) {
            FrozenBits x = ofDeep(deep);
            due("open(0, 0)", x.open(0, 0), 0);
            due("open(0, 1)", x.open(0, 1), 0);
        }
    }

    static void promise20_allLost() {
        for (int deep : DEEPS) {
            FrozenBits x = ofDeep(deep);
            due("open(all, 0)", x.open(all(deep), 0), all(deep));
            due("open(all, 1)", x.open(all(deep), 1), places(deep));
            x.freeze(1);
            due("open(all, 0), 0 FROZEN", x.open(all(deep), 0), all(deep) - 1);
            due("open(all, 1), 0 FROZEN", x.open(all(deep), 1), last(deep));
            x.freeze(all(deep));
            due("open(all, 0), all FROZEN", x.open(all(deep), 0), 0);
            due("open(all, 1), all FROZEN", x.open(all(deep), 1), 0);
        }
    }

    static void promise20_oneLost() {
        for (int deep : DEEPS) {
            for (int place = 0; place < places(deep); place++) {
                FrozenBits x = ofDeep(deep);
                due("open of " + place, x.open(1 << place, 0), 1);
                x.freeze(1);
                due("open of " + place + ", 0 FROZEN", x.open(1 << place, 0), 0);
            }
        }
    }

    static void promise20_allButOneLost() {
        for (int deep : DEEPS) {
            for (int place = 0; place < places(deep); place++) {
                FrozenBits x = ofDeep(deep);
                due("open of all but " + place, x.open(all(deep) - (1 << place), 0), all(deep) >> 1);
                due("how many", x.open(all(deep) - (1 << place), 1), last(deep));
            }
        }
    }

    static void promise20_noMatterWhatCame() {
        for (int deep : DEEPS) {
            FrozenBits x = rich(deep);
            due("open(1, 0)", x.open(1, 0), 1);
            due("open(all, 0)", x.open(all(deep), 0), all(deep) - 2);
            same("all behind it", story(x), story(rich(deep)));
        }
    }

    static void promise20_setTooSmallOrTooLarge() {
        for (int deep : DEEPS) {
            for (int set : outside(0, all(deep))) {
                refused(deep, "open(" + set + ", 0)", x -> x.open(set, 0), OUTSIDE);
                refused(deep, "open(" + set + ", 1)", x -> x.open(set, 1), OUTSIDE);
            }
        }
    }

    static void promise20_whatIsZeroOrOne() {
        for (int deep : DEEPS) {
            for (int what : outside(0, 1)) {
                refused(deep, "open(0, " + what + ")", x -> x.open(0, what), OUTSIDE);
                refused(deep, "open(all, " + what + ")", x -> x.open(all(deep), what), OUTSIDE);
            }
        }
    }

    // ---- promise 21

    static void promise21_nothingFree() {
        for (int deep : DEEPS) {
            FrozenBits x = ofDeep(deep);
            x.freeze(all(deep));
            same("fragile", fragile(x), "-6 -6 -6");
            x.best(0);
            same("fragile behind best(0)", fragile(x), "-6 -6 -6");
        }
    }

    static void promise21_nothingFrozen() {
        for (int deep : DEEPS) {
            same("fragile", fragile(ofDeep(deep)), "1 " + places(deep) + " 1");
        }
    }

    static void promise21_onlyTheLastFree() {
        for (int deep : DEEPS) {
            FrozenBits x = ofDeep(deep);
            x.freeze(all(deep) >> 1);
            same("fragile", fragile(x), places(deep) + " 1 " + all(deep));
        }
    }

    static void promise21_onlyTheFirstFree() {
        for (int deep : DEEPS) {
            FrozenBits x = ofDeep(deep);
            x.freeze(all(deep) - 1);
            same("fragile", fragile(x), "1 " + places(deep) + " 1");
        }
    }

    static void promise21_onlyTheFirstFrozen() {
        // Any two lost PLACES meet as a pair at the least bit in which their numbers differ.
        for (int deep : DEEPS) {
            FrozenBits x = ofDeep(deep);
            x.freeze(1);
            same("fragile", fragile(x), "2 " + places(deep) * last(deep) / 2 + " 3");
        }
    }

    static void promise21_theLeastSetThatOpensNotTheLeastOfItsSize() {
        // Bit 2 of four is told by halves alone: 0 and 2 lost, or 1 and 3.
        FrozenBits x = ofDeep(2);
        x.freeze(3);
        same("fragile", fragile(x), "2 2 5");
    }

    static void promise21_whatIsZeroToTwo() {
        for (int deep : DEEPS) {
            for (int what : outside(0, 2)) {
                refused(deep, "fragile(" + what + ")", x -> x.fragile(what), OUTSIDE);
            }
        }
    }

    // ---- promise 22

    static void promise22_firstAndSecond() {
        for (int deep : DEEPS) {
            FrozenBits x = ofDeep(deep);
            due("image(1)", x.image(1), 1);
            due("IMAGES", x.count(6), 2);
            due("image(0)", x.image(0), 1);
            due("IMAGES", x.count(6), 3);
        }
    }

    static void promise22_noSuchImage() {
        for (int deep : DEEPS) {
            for (int k : outside(0, 1)) {
                refused(deep, "image(" + k + ")", x -> x.image(k), OUTSIDE);
            }
        }
    }

    static void promise22_inPlaceOfWhatWasKeptThere() {
        for (int deep : DEEPS) {
            FrozenBits x = rich(deep);
            due("image(1) again", x.image(1), 1);
            String kept = facts(x);
            x.deep(1);
            x.restore(1);
            same("what was kept last", facts(x), kept);
            due("IMAGES", x.count(6), 2);
        }
    }

    static void promise22_theOtherImageStays() {
        for (int deep : DEEPS) {
            FrozenBits x = rich(deep);
            x.restore(1);
            String second = facts(x).replaceFirst(" 3 2 ", " 3 3 ");
            x.deep(deep);
            x.most(8);
            x.image(0);
            x.restore(1);
            same("IMAGE 1 behind image(0)", facts(x), second);
        }
    }

    static void promise22_nothingElseChanges() {
        for (int deep : DEEPS) {
            FrozenBits x = rich(deep);
            String was = facts(x);
            x.image(1);
            same("facts", facts(x), was);
        }
    }

    static void promise22_imagesAreNotKeptInImages() {
        FrozenBits x = new FrozenBits();
        x.image(0);
        x.image(1);
        x.restore(0);
        due("IMAGES", x.count(6), 3);
        due("restore(1)", x.restore(1), 1);
    }

    // ---- promise 23

    static void promise23_nothingWasKeptInIt() {
        for (int deep : DEEPS) {
            refused(deep, "restore(0), 1 kept", x -> x.restore(0), STATE);
            FrozenBits x = ofDeep(deep);
            due("restore(1), none kept", x.restore(1), STATE);
            x.image(0);
            due("restore(1), 0 kept", x.restore(1), STATE);
            due("restore(0), 0 kept", x.restore(0), 1);
            due("DEEP", x.count(0), deep);
        }
    }

    static void promise23_noSuchImage() {
        for (int deep : DEEPS) {
            for (int k : outside(0, 1)) {
                refused(deep, "restore(" + k + ")", x -> x.restore(k), OUTSIDE);
            }
        }
    }

    static void promise23_theImageStays() {
        for (int deep : DEEPS) {
            FrozenBits x = rich(deep);
            x.image(0);
            String kept = facts(x);
            for (int turn = 0; turn < 3; turn++) {
                x.deep(1 + turn);
                x.loss(turn, 9);
                x.hear(turn, 9);
                x.freeze(turn);
                x.most(1 + turn);
                x.check(turn, 3);
                due("restore(0)", x.restore(0), 1);
                same("facts", facts(x), kept);
                due("IMAGES", x.count(6), 3);
            }
        }
    }

    static void promise23_changesBehindItDoNotReachTheImage() {
        FrozenBits x = of(1, 2);
        x.check(0, 1);
        x.image(0);
        x.put(0, 9);
        x.check(0, 2);
        x.restore(0);
        due("MEASURE", x.put(0, 8), 1);
        due("CHECK", x.check(0, 3), 1);
        x.restore(0);
        due("MEASURE", x.measure(0, 0), 1);
        due("CHECK", x.count(10), 1);
    }

    static void promise23_fromEachDeepToEach() {
        for (int from : DEEPS) {
            for (int to : DEEPS) {
                FrozenBits x = rich(to);
                x.image(0);
                String kept = story(x).replaceFirst("\\|[^|]*\\|[^|]*$", "");
                x.deep(from);
                x.hear(all(from), 77);
                x.freeze(all(from));
                x.restore(0);
                same("from " + from + " to " + to, story(x).replaceFirst("\\|[^|]*\\|[^|]*$", ""), kept);
            }
        }
    }

    // ---- promise 24

    static void promise24_betweenAndBeyond() {
        for (int deep : DEEPS) {
            for (int what : new int[] {7, 8, 9}) {
                refused(deep, "count(" + what + ")", x -> x.count(what), OUTSIDE);
            }
            for (int what : outside(0, 12)) {
                refused(deep, "count(" + what + ")", x -> x.count(what), OUTSIDE);
            }
        }
    }

    static void promise24_eachAtItsBounds() {
        for (int deep : DEEPS) {
            FrozenBits x = ofDeep(deep);
            due("DEEP", x.count(0), deep);
            x.loss(0, 2);
            due("TOP", x.count(1), 0);
            due("OF", x.count(2), 2);
            x.loss(10, 10);
            due("TOP", x.count(1), 10);
            due("OF", x.count(2), 10);
            due("FROZEN", x.count(3), 0);
            due("FREE", x.count(4), places(deep));
            x.freeze(all(deep));
            due("FROZEN", x.count(3), all(deep));
            due("FREE", x.count(4), 0);
            due("MOST", x.count(5), 1);
            x.most(8);
            due("MOST", x.count(5), 8);
            for (int check = 0; check <= 2; check++) {
                due("CHECK", x.count(10 + check), 0);
                x.check(check, all(deep));
                due("CHECK", x.count(10 + check), all(deep));
            }
        }
    }

    static void promise24_whichImagesAreKept() {
        FrozenBits x = new FrozenBits();
        due("none", x.count(6), 0);
        x.image(0);
        due("the first", x.count(6), 1);
        x.image(0);
        due("the first again", x.count(6), 1);
        x.image(1);
        due("both", x.count(6), 3);
        FrozenBits y = new FrozenBits();
        y.image(1);
        due("the second", y.count(6), 2);
    }

    static void promise24_itChangesNothing() {
        for (int deep : DEEPS) {
            FrozenBits x = rich(deep);
            for (int what = -1; what <= 13; what++) {
                x.count(what);
            }
            same("all behind it", story(x), story(rich(deep)));
        }
    }

    // ---- all of them

    private static void run(Method method) throws IllegalAccessException {
        test = method.getName();
        asked = 0;
        try {
            method.invoke(null);
        } catch (InvocationTargetException thrown) {
            wrong++;
            System.out.println(test + " threw " + thrown.getCause());
        }
        if (asked == 0) {
            wrong++;
            System.out.println(test + " asks for nothing");
        }
    }

    private static int runAll(String prefix) throws IllegalAccessException {
        Method[] methods = EdgesTest.class.getDeclaredMethods();
        Arrays.sort(methods, Comparator.comparing(Method::getName));
        int found = 0;
        for (Method method : methods) {
            if (method.getName().startsWith(prefix)) {
                found++;
                run(method);
            }
        }
        if (found == 0) {
            wrong++;
            System.out.println("no test is called " + prefix + "..");
        }
        return found;
    }

    public static void main(String[] args) throws IllegalAccessException {
        int tests = runAll("terms_");
        for (int promise = 1; promise <= PROMISES; promise++) {
            tests += runAll(String.format("promise%02d_", promise));
        }
        System.out.println(tests + " tests: " + right + " answers are as due, " + wrong + " are not");
        if (wrong != 0) {
            System.exit(1);
        }
    }
}
