/** Each promise by hand: ordinary inputs, the edges that the document names, and wrong inputs. */
public final class PromisesTest {
    private static final int GONE_UNKNOWN = -1000001;
    private static final int GONE_OUTSIDE = -1000002;
    private static final int[] FAR = {Integer.MIN_VALUE, Integer.MIN_VALUE + 1, Integer.MAX_VALUE};

    private static int right = 0;
    private static int wrong = 0;

    private static void due(String call, long got, long want) {
        if (got == want) {
            right++;
        } else {
            wrong++;
            System.out.println(call + " answered " + got + ", due is " + want);
        }
    }

    private static void same(String call, String got, String want) {
        if (got.equals(want)) {
            right++;
        } else {
            wrong++;
            System.out.println(call + " left " + got + ", due is " + want);
        }
    }

    /** All that calls can change, as it can be asked for. */
    private static String facts(FrozenBits x) {
        StringBuilder text = new StringBuilder();
        for (int what = 0; what <= 6; what++) {
            text.append(x.count(what)).append(' ');
        }
        for (int what = 10; what <= 12; what++) {
            text.append(x.count(what)).append(' ');
        }
        for (int place = 0; place < 1 << x.count(0); place++) {
            text.append(x.measure(place, 0)).append(' ');
        }
        return text.toString();
    }

    private static FrozenBits used() {
        FrozenBits x = new FrozenBits();
        x.deep(2);
        x.loss(2, 6);
        x.freeze(5);
        x.put(0, -7);
        x.put(1, 99);
        x.put(3, -99);
        x.most(5);
        x.check(0, 9);
        x.check(1, 15);
        x.check(2, 4);
        x.image(1);
        return x;
    }

    private static void promise1() {
        FrozenBits x = new FrozenBits();
        same("new", facts(x), "3 1 2 0 8 1 0 0 0 0 0 0 0 0 0 0 0 0 ");
        due("new split", x.split(7, 1), 256);
        due("new restore(0)", x.restore(0), -3);
        due("new restore(1)", x.restore(1), -3);
        due("UNKNOWN", FrozenBits.UNKNOWN, -1);
        due("OUTSIDE", FrozenBits.OUTSIDE, -2);
        due("STATE", FrozenBits.STATE, -3);
        due("NONE", FrozenBits.NONE, -6);
        due("GONE", FrozenBits.GONE, -1000000);
        FrozenBits other = new FrozenBits();
        x.freeze(255);
        x.put(3, 9);
        same("another object", facts(other), "3 1 2 0 8 1 0 0 0 0 0 0 0 0 0 0 0 0 ");
    }

    private static void promise2() {
        FrozenBits x = used();
        due("deep(4)", x.deep(4), 2);
        same("deep(4)", facts(x), "4 2 6 0 16 5 2 0 0 0 0 0 0 0 0 0 0 0 0 0 0 0 0 0 0 0 ");
        due("deep(1)", x.deep(1), 4);
        due("places", x.coded(4), -2);
        due("places", x.coded(3), 2);
        x = used();
        due("deep as it was", x.deep(2), 2);
        same("deep as it was", facts(x), "2 2 6 0 4 5 2 0 0 0 0 0 0 0 ");
        x = used();
        String was = facts(x);
        due("deep(0)", x.deep(0), -2);
        due("deep(5)", x.deep(5), -2);
        due("deep(-1)", x.deep(-1), -2);
        for (int far : FAR) {
            due("deep far", x.deep(far), -2);
        }
        same("deep refused", facts(x), was);
    }

    private static void promise3() {
        FrozenBits x = new FrozenBits();
        due("loss(4, 6)", x.loss(4, 6), 2);
        due("TOP as told", x.count(1), 4);
        due("OF as told", x.count(2), 6);
        due("loss(0, 10)", x.loss(0, 10), 6);
        due("loss(10, 10)", x.loss(10, 10), 10);
        due("loss(2, 2)", x.loss(2, 2), 10);
        due("loss(0, 2)", x.loss(0, 2), 2);
        x = used();
        String was = facts(x);
        int[][] bad = {{1, 1}, {0, 1}, {1, 11}, {-1, 5}, {6, 5}, {0, 0}, {0, -2}, {3, 2}};
        for (int[] b : bad) {
            due("loss(" + b[0] + ", " + b[1] + ")", x.loss(b[0], b[1]), -2);
        }
        for (int far : FAR) {
            due("loss far", x.loss(far, 5), -2);
            due("loss far", x.loss(1, far), -2);
            due("loss far", x.loss(far, far), -2);
        }
        same("loss refused", facts(x), was);
        x.loss(1, 3);
        same("loss changes nothing else", facts(x), was.replaceFirst("2 2 6 ", "2 1 3 "));
    }

    private static void promise4() {
        FrozenBits x = new FrozenBits();
        x.deep(2);
        x.loss(1, 3);
        // 1/3 gives 5/9 and 1/9; of these 5/9 gives 65/81 and 25/81, 1/9 gives 17/81 and 1/81.
        int[] upper = {65, 25, 17, 1};
        for (int bit = 0; bit < 4; bit++) {
            due("split upper of " + bit, x.split(bit, 0), upper[bit]);
            due("split lower of " + bit, x.split(bit, 1), 81);
        }
        x.deep(1);
        x.loss(2, 4);
        due("lowest terms", x.split(0, 0), 3);
        due("lowest terms", x.split(0, 1), 4);
        x.loss(4, 6);
        due("lowest terms", x.split(0, 0), 8);
        due("lowest terms", x.split(0, 1), 9);
        due("lowest terms", x.split(1, 0), 4);
        due("lowest terms", x.split(1, 1), 9);
        x.deep(4);
        x.loss(0, 10);
        due("0 is 0 by 1", x.split(5, 0), 0);
        due("0 is 0 by 1", x.split(5, 1), 1);
        x.loss(10, 10);
        due("1 is 1 by 1", x.split(5, 0), 1);
        due("1 is 1 by 1", x.split(5, 1), 1);
        x.loss(9, 10);
        due("the greatest", x.split(0, 0), 9999999999999999L);
        due("the greatest", x.split(0, 1), 10000000000000000L);
        due("the least", x.split(15, 0), 1853020188851841L);
        due("split(16, 0)", x.split(16, 0), -1);
        due("split(-1, 0)", x.split(-1, 0), -1);
        due("split(16, 9)", x.split(16, 9), -1);
        due("split(0, 2)", x.split(0, 2), -2);
        due("split(0, -1)", x.split(0, -1), -2);
        x.deep(1);
        due("split(2, 0)", x.split(2, 0), -1);
        for (int far : FAR) {
            due("split far", x.split(far, 0), -1);
            due("split far", x.split(0, far), -2);
        }
    }

    private static void promise5() {
        FrozenBits x = new FrozenBits();
        int[] order = {7, 6, 5, 3, 4, 2, 1, 0};
        for (int i = 0; i < 8; i++) {
            due("rank(" + i + ", 0)", x.rank(i, 0), order[i]);
            due("rank(" + order[i] + ", 1)", x.rank(order[i], 1), i);
        }
        x.deep(4);
        int[] sixteen = {15, 14, 13, 11, 7, 12, 10, 9, 6, 5, 3, 8, 4, 2, 1, 0};
        for (int i = 0; i < 16; i++) {
            due("rank(" + i + ", 0) of 16", x.rank(i, 0), sixteen[i]);
            due("rank(" + sixteen[i] + ", 1) of 16", x.rank(sixteen[i], 1), i);
        }
        x.deep(3);
        for (int top = 0; top <= 7; top += 7) {
            x.loss(top, 7);
            for (int i = 0; i < 8; i++) {
                due("like ones: the greater number", x.rank(i, 0), 7 - i);
                due("like ones: the greater number", x.rank(i, 1), 7 - i);
            }
        }
        due("rank(8, 0)", x.rank(8, 0), -1);
        due("rank(-1, 1)", x.rank(-1, 1), -1);
        due("rank(8, 2)", x.rank(8, 2), -1);
        due("rank(0, 2)", x.rank(0, 2), -2);
        due("rank(0, -1)", x.rank(0, -1), -2);
        for (int far : FAR) {
            due("rank far", x.rank(far, 0), -1);
            due("rank far", x.rank(0, far), -2);
        }
    }

    private static void promise6() {
        FrozenBits x = used();
        due("freeze(15)", x.freeze(15), 0);
        due("FROZEN", x.count(3), 15);
        due("freeze(0)", x.freeze(0), 4);
        due("freeze(10)", x.freeze(10), 2);
        String was = facts(x);
        due("freeze(16)", x.freeze(16), -2);
        due("freeze(-1)", x.freeze(-1), -2);
        for (int far : FAR) {
            due("freeze far", x.freeze(far), -2);
        }
        same("freeze refused", facts(x), was);
        x.freeze(1);
        same("freeze changes nothing else", facts(x), was.replaceFirst(" 10 2 5 ", " 1 3 5 "));
        x.deep(4);
        due("freeze(65535)", x.freeze(65535), 0);
        due("freeze(65536)", x.freeze(65536), -2);
    }

    private static void promise7() {
        FrozenBits x = new FrozenBits();
        int[] sets = {255, 127, 63, 31, 23, 7, 3, 1, 0};
        for (int n = 0; n <= 8; n++) {
            due("best(" + n + ")", x.best(n), sets[n]);
            due("FROZEN of best", x.count(3), sets[n]);
            due("FREE of best", x.count(4), n);
        }
        x.best(4);
        String was = facts(x);
        due("best(9)", x.best(9), -2);
        due("best(-1)", x.best(-1), -2);
        for (int far : FAR) {
            due("best far", x.best(far), -2);
        }
        same("best refused", facts(x), was);
    }

    private static void promise8() {
        FrozenBits x = new FrozenBits();
        int[] alone = {1, 3, 5, 15, 17, 51, 85, 255};
        for (int bit = 0; bit < 8; bit++) {
            due("coded of bit " + bit, x.coded(1 << bit), alone[bit]);
        }
        due("coded(0)", x.coded(0), 0);
        due("coded(255)", x.coded(255), 128);
        due("coded(14)", x.coded(14), 3 ^ 5 ^ 15);
        due("coded(256)", x.coded(256), -2);
        due("coded(-1)", x.coded(-1), -2);
        for (int far : FAR) {
            due("coded far", x.coded(far), -2);
        }
        x.freeze(255);
        due("coded of a row that is no WORD", x.coded(3), 2);
        x.deep(4);
        due("coded(32768)", x.coded(32768), 65535);
        due("coded(65535)", x.coded(65535), 32768);
        due("coded(256)", x.coded(256), 257);
    }

    private static void promise9() {
        FrozenBits x = new FrozenBits();
        x.freeze(0b01010110);
        int[] free = {0, 3, 5, 7};
        for (int v = 0; v < 16; v++) {
            int row = 0;
            for (int j = 0; j < 4; j++) {
                row |= (v >> j & 1) << free[j];
            }
            due("word(" + v + ")", x.word(v), row);
        }
        due("word(16)", x.word(16), -2);
        due("word(-1)", x.word(-1), -2);
        for (int far : FAR) {
            due("word far", x.word(far), -2);
        }
        x.freeze(255);
        due("word(0)", x.word(0), 0);
        due("word(1)", x.word(1), -2);
        x.deep(4);
        due("word(65535)", x.word(65535), 65535);
        due("word(65536)", x.word(65536), -2);
    }

    private static void promise10() {
        FrozenBits x = new FrozenBits();
        due("light(0)", x.light(0), 1);
        due("light(1)", x.light(1), 8);
        x.freeze(1);
        due("light(0)", x.light(0), 2);
        due("light(1)", x.light(1), 28);
        x.freeze(127);
        due("light(0)", x.light(0), 8);
        due("light(1)", x.light(1), 1);
        x.freeze(0b11111101);
        due("light(0) of bit 1 alone", x.light(0), 2);
        due("light(1) of bit 1 alone", x.light(1), 1);
        due("light(2)", x.light(2), -2);
        due("light(-1)", x.light(-1), -2);
        x.freeze(255);
        due("light(0) of nothing FREE", x.light(0), -6);
        due("light(1) of nothing FREE", x.light(1), -6);
        due("light(2) of nothing FREE", x.light(2), -2);
        for (int far : FAR) {
            due("light far", x.light(far), -2);
        }
        x.deep(4);
        x.freeze(32767);
        due("light(0) of bit 15", x.light(0), 16);
        due("light(1) of bit 15", x.light(1), 1);
    }

    private static void promise11() {
        FrozenBits x = new FrozenBits();
        due("put(0, 99)", x.put(0, 99), 0);
        due("put(0, -99)", x.put(0, -99), 99);
        due("put(0, 0)", x.put(0, 0), -99);
        due("put(7, -1)", x.put(7, -1), 0);
        same("put", facts(x), "3 1 2 0 8 1 0 0 0 0 0 0 0 0 0 0 0 -1 ");
        due("put(8, 0)", x.put(8, 0), GONE_UNKNOWN);
        due("put(-1, 0)", x.put(-1, 0), GONE_UNKNOWN);
        due("put(8, 100)", x.put(8, 100), GONE_UNKNOWN);
        due("put(0, 100)", x.put(0, 100), GONE_OUTSIDE);
        due("put(0, -100)", x.put(0, -100), GONE_OUTSIDE);
        for (int far : FAR) {
            due("put far", x.put(far, 0), GONE_UNKNOWN);
            due("put far", x.put(0, far), GONE_OUTSIDE);
        }
        same("put refused", facts(x), "3 1 2 0 8 1 0 0 0 0 0 0 0 0 0 0 0 -1 ");
    }

    private static void promise12() {
        FrozenBits x = new FrozenBits();
        x.put(0, 50);
        due("hear(2, 99)", x.hear(2, 99), 3);
        same("hear", facts(x), "3 1 2 0 8 1 0 0 0 0 -99 -99 99 99 99 99 99 99 ");
        due("hear(0, 1)", x.hear(0, 1), 0);
        same("hear", facts(x), "3 1 2 0 8 1 0 0 0 0 1 1 1 1 1 1 1 1 ");
        x.freeze(255);
        due("hear of a row that is no WORD", x.hear(128, 4), 255);
        String was = facts(x);
        int[][] bad = {{256, 1}, {-1, 1}, {0, 0}, {0, 100}, {0, -1}, {256, 0}};
        for (int[] b : bad) {
            due("hear(" + b[0] + ", " + b[1] + ")", x.hear(b[0], b[1]), -2);
        }
        for (int far : FAR) {
            due("hear far", x.hear(far, 1), -2);
            due("hear far", x.hear(0, far), -2);
        }
        same("hear refused", facts(x), was);
    }

    private static void promise13() {
        FrozenBits x = new FrozenBits();
        x.put(0, 5);
        x.put(1, -6);
        x.put(3, 7);
        due("spoil(7, 1)", x.spoil(7, 1), 2);
        same("spoil", facts(x), "3 1 2 0 8 1 0 0 0 0 -5 6 0 7 0 0 0 0 ");
        due("spoil(9, 0)", x.spoil(9, 0), 2);
        same("spoil", facts(x), "3 1 2 0 8 1 0 0 0 0 0 6 0 0 0 0 0 0 ");
        due("spoil(0, 0)", x.spoil(0, 0), 0);
        due("spoil(253, 1)", x.spoil(253, 1), 0);
        int[][] bad = {{256, 0}, {-1, 1}, {255, 2}, {255, -1}};
        for (int[] b : bad) {
            due("spoil(" + b[0] + ", " + b[1] + ")", x.spoil(b[0], b[1]), -2);
        }
        for (int far : FAR) {
            due("spoil far", x.spoil(far, 0), -2);
            due("spoil far", x.spoil(255, far), -2);
        }
        same("spoil refused", facts(x), "3 1 2 0 8 1 0 0 0 0 0 6 0 0 0 0 0 0 ");
        due("spoil(255, 0)", x.spoil(255, 0), 1);
    }

    private static FrozenBits four(int a, int b, int c, int d) {
        FrozenBits x = new FrozenBits();
        x.deep(2);
        x.put(0, a);
        x.put(1, b);
        x.put(2, c);
        x.put(3, d);
        return x;
    }

    private static void promise14() {
        // Halves 5 -3 and -2 4: FIRST -2 -3, so bit 0 sees 2 and is 0, bit 1 sees -3 - 2 and is 1.
        // CODED of 0 1 is 1 1: SECOND -2 - 5 = -7 and 4 + 3 = 7, so bit 2 sees -7 and is 1, bit 3 sees 14.
        FrozenBits x = four(5, -3, -2, 4);
        int[] seen = {2, -5, -7, 14};
        int[] put = {5, -3, -2, 4};
        for (int place = 0; place < 4; place++) {
            due("measure(" + place + ", 0)", x.measure(place, 0), put[place]);
            due("measure(" + place + ", 1)", x.measure(place, 1), seen[place]);
        }
        // Bit 1 being FROZEN: CODED of 0 0: SECOND 3 and 1: bit 2 sees 1, bit 3 sees 4.
        x.freeze(2);
        int[] frozenSeen = {2, -5, 1, 4};
        for (int place = 0; place < 4; place++) {
            due("measure(" + place + ", 1), 1 FROZEN", x.measure(place, 1), frozenSeen[place]);
        }
        x.put(0, 0);
        due("measure of 0 tells nothing", x.measure(0, 1), 0);
        due("measure(4, 0)", x.measure(4, 0), GONE_UNKNOWN);
        due("measure(-1, 1)", x.measure(-1, 1), GONE_UNKNOWN);
        due("measure(4, 2)", x.measure(4, 2), GONE_UNKNOWN);
        due("measure(0, 2)", x.measure(0, 2), GONE_OUTSIDE);
        due("measure(0, -1)", x.measure(0, -1), GONE_OUTSIDE);
        for (int far : FAR) {
            due("measure far", x.measure(far, 0), GONE_UNKNOWN);
            due("measure far", x.measure(0, far), GONE_OUTSIDE);
        }
    }

    private static void promise15() {
        FrozenBits x = four(5, -3, -2, 4);
        due("read(0)", x.read(0), 6);
        due("read(1)", x.read(1), 0);
        // CODED of 6 is 3 ^ 5: PLACES 1, 2, just as told.
        due("read(2)", x.read(2), 0);
        due("read(3)", x.read(3), 1);
        x.check(2, 10);
        due("read(3), CHECK of one of both", x.read(3), 0);
        x.check(2, 14);
        due("read(3), CHECK of both", x.read(3), 1);
        x.freeze(2);
        due("read(0), 1 FROZEN", x.read(0), 0);
        due("read(1), 1 FROZEN", x.read(1), 5);
        due("read(2), 1 FROZEN", x.read(2), 2);
        x.spoil(4, 0);
        due("read(2), 0 tells nothing", x.read(2), 1);
        x.spoil(15, 0);
        due("read(0) of nothing", x.read(0), 0);
        due("read(1) of nothing", x.read(1), 0);
        due("read(2) of nothing", x.read(2), 0);
        x.put(0, 1);
        x.put(3, -1);
        // Bit 2 sees -1, bit 3 behind it -2: CODED of 12 has 1 at PLACES 1 and 3, and nothing came at 1.
        due("read(0) of weak ones", x.read(0), 12);
        due("read(2), CODED has 1 where nothing came", x.read(2), 0);
        x.deep(4);
        x.hear(32768, 99);
        due("read(0) of 16", x.read(0), 32768);
        due("read(1) of 16", x.read(1), 0);
        x.freeze(65535);
        due("read(0) of 16, all FROZEN", x.read(0), 0);
        due("read(1) of 16, all FROZEN", x.read(1), 16 * 99);
        due("read(2) of 16, all FROZEN", x.read(2), 16);
        x.freeze(0);
        x.hear(1, 5);
        due("read(0) of the first bit", x.read(0), 1);
        x.freeze(1);
        due("read(1), the first bit FROZEN", x.read(1), 5);
        due("read(2), the first bit FROZEN", x.read(2), 1);
        due("read(4)", x.read(4), -2);
        due("read(-1)", x.read(-1), -2);
        for (int far : FAR) {
            due("read far", x.read(far), -2);
        }
    }

    private static void promise16() {
        FrozenBits x = new FrozenBits();
        due("most(8)", x.most(8), 1);
        due("most(3)", x.most(3), 8);
        due("most(1)", x.most(1), 3);
        due("most(0)", x.most(0), -2);
        due("most(9)", x.most(9), -2);
        for (int far : FAR) {
            due("most far", x.most(far), -2);
        }
        due("most refused", x.count(5), 1);
        x.most(8);
        due("MOST of KEPT", x.kept(-1, 0), 8);
        x.most(3);
        due("MOST of KEPT", x.kept(-1, 0), 3);
    }

    private static void promise17() {
        // DEEP 1, MEASURES 3 and -5: bit 0 sees -3; then -5 + 3 = -2 behind 0, -5 - 3 = -8 behind 1.
        FrozenBits x = new FrozenBits();
        x.deep(1);
        x.put(0, 3);
        x.put(1, -5);
        x.most(4);
        x.check(0, 2);
        int[][] due = {{3, 0, 0}, {2, 3, 0}, {0, 5, 1}, {1, 8, 1}};
        for (int i = 0; i < 4; i++) {
            for (int what = 0; what <= 2; what++) {
                due("kept(" + i + ", " + what + ")", x.kept(i, what), due[i][what]);
            }
        }
        for (int what = 0; what <= 2; what++) {
            due("kept(-1)", x.kept(-1, what), 4);
            due("kept(4)", x.kept(4, what), -6);
            due("kept(-2)", x.kept(-2, what), -6);
        }
        x.freeze(1);
        due("kept, 0 FROZEN", x.kept(-1, 0), 2);
        due("kept, 0 FROZEN", x.kept(0, 0), 2);
        due("kept, a FROZEN bit is fined too", x.kept(0, 1), 3);
        due("kept, 0 FROZEN", x.kept(1, 0), 0);
        due("kept, 0 FROZEN", x.kept(1, 1), 5);
        x.freeze(3);
        due("kept, all FROZEN", x.kept(-1, 0), 1);
        due("kept, all FROZEN", x.kept(0, 0), 0);
        due("kept, all FROZEN", x.kept(0, 1), 5);
        due("kept(0, 3)", x.kept(0, 3), -2);
        due("kept(0, -1)", x.kept(0, -1), -2);
        due("kept(-1, 3)", x.kept(-1, 3), -2);
        due("kept(-2, 3)", x.kept(-2, 3), -2);
        for (int far : FAR) {
            due("kept far", x.kept(far, 0), -6);
            due("kept far", x.kept(0, far), -2);
        }
        // MEASURES 3 and 5: bit 0 sees 3; then 8 behind 0, 2 behind 1.
        x.freeze(0);
        x.put(1, 5);
        int[][] above = {{0, 0}, {1, 3}, {3, 5}, {2, 8}};
        for (int i = 0; i < 4; i++) {
            due("kept, SEEN above 0", x.kept(i, 0), above[i][0]);
            due("kept, SEEN above 0", x.kept(i, 1), above[i][1]);
        }
        FrozenBits y = new FrozenBits();
        y.most(8);
        for (int i = 0; i < 8; i++) {
            due("kept, of like ones the lesser numbers", y.kept(i, 0), i);
            due("kept, of like ones the lesser numbers", y.kept(i, 1), 0);
        }
    }

    private static void promise18() {
        FrozenBits x = new FrozenBits();
        x.deep(1);
        x.put(0, 3);
        x.put(1, -5);
        x.most(4);
        int[][] due = {{0, 3, 0, 0}, {1, 2, 1, 3}, {2, 0, 2, 5}, {3, 3, 0, 0}};
        for (int[] d : due) {
            x.check(0, d[0]);
            for (int what = 0; what <= 2; what++) {
                due("chosen(" + what + ") by CHECK " + d[0], x.chosen(what), d[1 + what]);
            }
        }
        x.check(1, 2);
        due("chosen by two CHECKS", x.chosen(0), 0);
        due("chosen by two CHECKS", x.chosen(1), 2);
        due("chosen by two CHECKS", x.chosen(2), 5);
        x.check(0, 0);
        x.check(1, 0);
        x.check(2, 2);
        due("chosen by the last CHECK", x.chosen(0), 0);
        x.most(2);
        for (int what = 0; what <= 2; what++) {
            due("chosen, none HOLDS", x.chosen(what), -6);
        }
        due("chosen(3)", x.chosen(3), -2);
        due("chosen(-1)", x.chosen(-1), -2);
        for (int far : FAR) {
            due("chosen far", x.chosen(far), -2);
        }
    }

    private static void promise19() {
        FrozenBits x = new FrozenBits();
        due("check(0, 255)", x.check(0, 255), 0);
        due("check(0, 3)", x.check(0, 3), 255);
        due("check(1, 4)", x.check(1, 4), 0);
        due("check(2, 5)", x.check(2, 5), 0);
        same("check", facts(x), "3 1 2 0 8 1 0 3 4 5 0 0 0 0 0 0 0 0 ");
        due("check(3, 0)", x.check(3, 0), -1);
        due("check(-1, 0)", x.check(-1, 0), -1);
        due("check(3, 256)", x.check(3, 256), -1);
        due("check(0, 256)", x.check(0, 256), -2);
        due("check(2, -1)", x.check(2, -1), -2);
        for (int far : FAR) {
            due("check far", x.check(far, 0), -1);
            due("check far", x.check(0, far), -2);
        }
        same("check refused", facts(x), "3 1 2 0 8 1 0 3 4 5 0 0 0 0 0 0 0 0 ");
    }

    private static void promise20() {
        FrozenBits x = new FrozenBits();
        x.deep(2);
        // Lost 0: FIRST is lost at 0, SECOND nowhere. Lost 0 and 2: SECOND is lost at 0 too.
        int[] open = {0, 1, 1, 3, 1, 5, 3, 7, 1, 3, 5, 7, 3, 7, 7, 15};
        for (int set = 0; set < 16; set++) {
            due("open(" + set + ", 0)", x.open(set, 0), open[set]);
            due("open(" + set + ", 1)", x.open(set, 1), Integer.bitCount(open[set]));
        }
        x.freeze(5);
        due("open(15, 0), FROZEN", x.open(15, 0), 10);
        due("open(15, 1), FROZEN", x.open(15, 1), 2);
        x.put(0, 44);
        String was = facts(x);
        due("open(5, 0), FROZEN", x.open(5, 0), 0);
        same("open leaves what came", facts(x), was);
        int[][] bad = {{16, 0}, {-1, 1}, {0, 2}, {0, -1}};
        for (int[] b : bad) {
            due("open(" + b[0] + ", " + b[1] + ")", x.open(b[0], b[1]), -2);
        }
        for (int far : FAR) {
            due("open far", x.open(far, 0), -2);
            due("open far", x.open(0, far), -2);
        }
    }

    private static void promise21() {
        FrozenBits x = new FrozenBits();
        x.deep(2);
        int[][] due = {{0, 1, 4, 1}, {1, 2, 6, 3}, {3, 2, 2, 5}, {5, 2, 4, 3}, {7, 4, 1, 15}, {13, 2, 4, 3}};
        for (int[] d : due) {
            x.freeze(d[0]);
            for (int what = 0; what <= 2; what++) {
                due("fragile(" + what + ") of FROZEN " + d[0], x.fragile(what), d[1 + what]);
            }
        }
        due("fragile(3)", x.fragile(3), -2);
        due("fragile(-1)", x.fragile(-1), -2);
        x.freeze(15);
        for (int what = 0; what <= 2; what++) {
            due("fragile of nothing FREE", x.fragile(what), -6);
        }
        due("fragile(3) of nothing FREE", x.fragile(3), -2);
        for (int far : FAR) {
            due("fragile far", x.fragile(far), -2);
        }
        x.deep(4);
        x.freeze(32767);
        due("fragile(0) of bit 15", x.fragile(0), 16);
        due("fragile(1) of bit 15", x.fragile(1), 1);
        due("fragile(2) of bit 15", x.fragile(2), 65535);
    }

    private static void promise22() {
        FrozenBits x = used();
        String first = facts(x);
        due("which are kept", x.count(6), 2);
        due("image(0)", x.image(0), 1);
        due("which are kept", x.count(6), 3);
        x.most(2);
        x.put(2, 1);
        due("image(0) anew", x.image(0), 1);
        String second = facts(x);
        x.deep(4);
        x.restore(0);
        same("in place of what was kept there", facts(x), second);
        x.restore(1);
        same("the other one stays", facts(x), first.replaceFirst(" 5 2 9 ", " 5 3 9 "));
        due("image(2)", x.image(2), -2);
        due("image(-1)", x.image(-1), -2);
        FrozenBits y = new FrozenBits();
        for (int far : FAR) {
            due("image far", y.image(far), -2);
        }
        due("image refused", y.count(6), 0);
        y.image(0);
        due("the first", y.count(6), 1);
    }

    private static void promise23() {
        FrozenBits x = used();
        String was = facts(x);
        due("restore(0)", x.restore(0), -3);
        due("restore(2)", x.restore(2), -2);
        due("restore(-1)", x.restore(-1), -2);
        for (int far : FAR) {
            due("restore far", x.restore(far), -2);
        }
        same("restore refused", facts(x), was);
        for (int turn = 0; turn < 2; turn++) {
            x.deep(3);
            x.loss(1, 9);
            x.freeze(77);
            x.hear(200, 9);
            x.most(8);
            x.check(0, 1);
            x.check(1, 2);
            x.check(2, 200);
            due("restore(1)", x.restore(1), 1);
            same("all is as it was, and the IMAGE stays", facts(x), was);
        }
        x.image(0);
        x.put(0, 11);
        due("the IMAGE is no part of what goes on", x.restore(0), 1);
        due("the IMAGE is no part of what goes on", x.measure(0, 0), -7);
        x.restore(1);
        due("an IMAGE that was kept later stays", x.count(6), 3);
    }

    private static void promise24() {
        FrozenBits x = used();
        int[] due = {2, 2, 6, 5, 2, 5, 2, -2, -2, -2, 9, 15, 4, -2};
        for (int what = 0; what < due.length; what++) {
            due("count(" + what + ")", x.count(what), due[what]);
        }
        due("count(-1)", x.count(-1), -2);
        for (int far : FAR) {
            due("count far", x.count(far), -2);
        }
    }

    private static void firstPromises() {
        promise1();
        promise2();
        promise3();
        promise4();
        promise5();
        promise6();
        promise7();
        promise8();
        promise9();
        promise10();
        promise11();
        promise12();
    }

    private static void lastPromises() {
        promise13();
        promise14();
        promise15();
        promise16();
        promise17();
        promise18();
        promise19();
        promise20();
        promise21();
        promise22();
        promise23();
        promise24();
    }

    public static void main(String[] args) {
        firstPromises();
        lastPromises();
        System.out.println(right + " answers are as due, " + wrong + " are not");
        if (wrong != 0) {
            System.exit(1);
        }
    }
}
