/** Boundary cases that promises 2 to 5 name, each sentence by a test of its own. */
public final class MakingEdgesTest extends Bench {
    private static final long LEAST = Long.MIN_VALUE, GREATEST = Long.MAX_VALUE;

    public static void main(String[] args) {
        MakingEdgesTest t = new MakingEdgesTest();
        t.promise2();
        t.promise3();
        t.promise4();
        t.promise5();
        t.check.end("MakingEdgesTest");
    }

    private void promise2() {
        sentence("load: register k becomes n / d: 0", this::loadsOne);
        sentence("load: d may be below 0: the TERM's n has the sign", this::loadSigns);
        sentence("load: n and d may be any long, the least one too", this::loadLeast);
        sentence("load: REFUSED for another register", this::loadOther);
        sentence("load: REFUSED if d is 0", this::loadByZero);
        sentence("load: FULL if it is too great in lowest terms", this::loadFull);
    }

    private void promise3() {
        sentence("root: register k becomes the root of register i: 0", this::rootsOne);
        sentence("root: the greatest square that divides n d", this::rootSquares);
        sentence("root: of 0: 0", this::rootOfZero);
        sentence("root: REFUSED for another register, first", this::rootOther);
        sentence("root: NONE if it is no fraction", this::rootOfNoFraction);
        sentence("root: NONE if it is below 0", this::rootBelowZero);
        sentence("root: FULL if n d is above 10^8", this::rootFull);
    }

    private void promise4() {
        sentence("reckon: op 0, 1, 2: how many terms", this::reckonOps);
        sentence("reckon: those of j, each below 0 instead of above", this::reckonTaken);
        sentence("reckon: to nothing are ADDED the PRODUCTS", this::reckonProducts);
        sentence("reckon: k, i and j may be the same register", this::reckonSame);
        sentence("reckon: REFUSED for another op", this::reckonOtherOp);
        sentence("reckon: REFUSED for another register", this::reckonOtherRegister);
        sentence("reckon: FULL (nothing is done)", this::reckonFull);
    }

    private void promise5() {
        sentence("divide: register k becomes i divided by j: how many terms", this::divideOne);
        sentence("divide: FULL if d / (n r) is too great in lowest terms", this::divideInverse);
        sentence("divide: its n has the sign", this::divideSigns);
        sentence("divide: k, i and j may be the same register", this::divideSame);
        sentence("divide: REFUSED for another register, first", this::divideOther);
        sentence("divide: NONE if j has not one term alone", this::divideNone);
        sentence("divide: FULL", this::divideFull);
    }

    /** Something to lose in every register, and in OUT. */
    private void fill() {
        for (int k = 0; k < 6; k++) {
            one(k, k + 2, 3 * k + 7, k + 1);
        }
        load(6, 17, 19);
        load(7, 23, 29);
        due("write", x.write(7, 5), 7);
    }

    private void loadsOne() {
        fill();
        changesAlone(0, "the first register", () -> x.load(0, 5, 7), 0);
        is(0, "5/7*1");
        changesAlone(7, "the last register", () -> x.load(7, -5, 7), 0);
        is(7, "-5/7*1");
        changesAlone(3, "0", () -> x.load(3, 0, 7), 0);
        is(3, "");
        changesAlone(3, "over 0", () -> x.load(3, 1, 1), 0);
        is(3, "1/1*1");
    }

    private void loaded(long n, long d, String due) {
        load(2, 3, 1);
        due("load " + n + " / " + d, x.load(2, n, d), 0);
        is(2, due);
    }

    private void notLoaded(long n, long d) {
        stays("load " + n + " / " + d, () -> x.load(2, n, d), SurdDesk.FULL);
    }

    private void loadSigns() {
        loaded(3, 5, "3/5*1");
        loaded(-3, 5, "-3/5*1");
        loaded(3, -5, "-3/5*1");
        loaded(-3, -5, "3/5*1");
        loaded(0, -5, "");
        loaded(BILLION, -1, "-1000000000/1*1");
        loaded(1, -BILLION, "-1/1000000000*1");
    }

    private void loadLeast() {
        loaded(LEAST, LEAST, "1/1*1");
        loaded(0, LEAST, "");
        loaded(LEAST, 1L << 34, "-536870912/1*1");
        loaded(LEAST, -(1L << 34), "536870912/1*1");
        loaded(1L << 34, LEAST, "-1/536870912*1");
        loaded(-(1L << 34), LEAST, "1/536870912*1");
        notLoaded(LEAST, 1L << 33);
        notLoaded(LEAST, -(1L << 33));
        notLoaded(1L << 33, LEAST);
        notLoaded(-(1L << 33), LEAST);
        for (long small : new long[] {1, -1, 3, -3, GREATEST, -GREATEST}) {
            notLoaded(LEAST, small);
            notLoaded(small, LEAST);
        }
        loaded(GREATEST, GREATEST, "1/1*1");
        loaded(GREATEST, -GREATEST, "-1/1*1");
        loaded(-GREATEST, GREATEST, "-1/1*1");
        notLoaded(GREATEST, GREATEST - 1);
        notLoaded(GREATEST, 1);
    }

    private void loadOther() {
        fill();
        for (int k : OTHERS) {
            stays("load", () -> x.load(k, 1, 1), SurdDesk.REFUSED);
            stays("also if d is 0", () -> x.load(k, 1, 0), SurdDesk.REFUSED);
            stays("also if it is too great", () -> x.load(k, BILLION + 1, 1), SurdDesk.REFUSED);
        }
    }

    private void loadByZero() {
        fill();
        for (long n : new long[] {0, 1, -1, BILLION + 1, LEAST, GREATEST}) {
            stays("load " + n + " / 0", () -> x.load(3, n, 0), SurdDesk.REFUSED);
        }
        due("0 / 1", x.load(3, 0, 1), 0);
        due("0 / -1", x.load(3, 0, -1), 0);
    }

    private void loadFull() {
        fill();
        loaded(BILLION, 1, "1000000000/1*1");
        loaded(-BILLION, 1, "-1000000000/1*1");
        loaded(1, BILLION, "1/1000000000*1");
        loaded(BILLION, 999_999_999, "1000000000/999999999*1");
        notLoaded(BILLION + 1, 1);
        notLoaded(-BILLION - 1, 1);
        notLoaded(BILLION + 1, -1);
        notLoaded(1, BILLION + 1);
        notLoaded(1, -BILLION - 1);
        notLoaded(BILLION + 1, BILLION);
        notLoaded(BILLION, BILLION + 1);
        loaded(3 * BILLION, 3, "1000000000/1*1");
        loaded(3, 3 * BILLION, "1/1000000000*1");
        loaded(7 * BILLION, 7 * 999_999_999L, "1000000000/999999999*1");
        loaded(1_000_000_001, 7, "142857143/1*1");
        notLoaded(3 * BILLION + 3, 3);
        notLoaded(3, 3 * BILLION + 3);
        // Cut off to an int these would fit.
        notLoaded((1L << 32) + 1, 1);
        notLoaded(1, (1L << 32) + 1);
        loaded(0, BILLION + 1, "");
        loaded(0, GREATEST, "");
    }

    private void rootsOne() {
        fill();
        load(6, 8, 9);
        changesAlone(0, "into the first", () -> x.root(0, 6), 0);
        is(0, "2/3*2");
        changesAlone(7, "into the last", () -> x.root(7, 6), 0);
        is(7, "2/3*2");
        changesAlone(6, "into itself", () -> x.root(6, 6), 0);
        is(6, "2/3*2");
        load(0, 1, 1);
        changesAlone(5, "of the first", () -> x.root(5, 0), 0);
        is(5, "1/1*1");
        load(7, 3, 1);
        changesAlone(5, "of the last", () -> x.root(5, 7), 0);
        is(5, "1/1*3");
    }

    private void rooted(long n, long d, String due) {
        load(0, n, d);
        due("root of " + n + " / " + d, x.root(1, 0), 0);
        is(1, due);
    }

    private void rootSquares() {
        rooted(1, 1, "1/1*1");
        rooted(2, 1, "1/1*2");
        rooted(4, 1, "2/1*1");
        rooted(16, 1, "4/1*1");
        rooted(32, 1, "4/1*2");
        rooted(1, 2, "1/2*2");
        rooted(1, 4, "1/2*1");
        rooted(1, 8, "1/4*2");
        rooted(3, 4, "1/2*3");
        rooted(3, 5, "1/5*15");
        // The square of the greatest prime whose square is not above 10^8, and primes themselves.
        rooted(99_460_729, 1, "9973/1*1");
        rooted(1, 99_460_729, "1/9973*1");
        rooted(99_999_989, 1, "1/1*99999989");
        rooted(1, 99_999_989, "1/99999989*99999989");
        rooted(96_059_601, 1, "9801/1*1");
        rooted(99_960_004, 1, "9998/1*1");
    }

    private void rootOfZero() {
        fill();
        load(3, 0, 1);
        changesAlone(4, "root of 0", () -> x.root(4, 3), 0);
        is(4, "");
        changesAlone(3, "into itself", () -> x.root(3, 3), 0);
        is(3, "");
    }

    private void rootOther() {
        fill();
        load(0, -1, 1);
        load(2, BILLION, 1);
        for (int k : OTHERS) {
            stays("k", () -> x.root(k, 6), SurdDesk.REFUSED);
            stays("i", () -> x.root(6, k), SurdDesk.REFUSED);
            stays("both", () -> x.root(k, k), SurdDesk.REFUSED);
            stays("before NONE below 0", () -> x.root(k, 0), SurdDesk.REFUSED);
            stays("before NONE of no fraction", () -> x.root(k, 1), SurdDesk.REFUSED);
            stays("before FULL", () -> x.root(k, 2), SurdDesk.REFUSED);
        }
    }

    private void rootOfNoFraction() {
        fill();
        stays("one term", () -> x.root(2, 1), SurdDesk.NONE);
        stays("into itself", () -> x.root(1, 1), SurdDesk.NONE);
        due("two terms", x.reckon(0, 3, 0, 1), 2);
        stays("two terms", () -> x.root(2, 3), SurdDesk.NONE);
        one(3, BILLION, 1, 2);
        stays("before FULL", () -> x.root(2, 3), SurdDesk.NONE);
        one(3, -1, 1, 2);
        stays("below 0, too", () -> x.root(2, 3), SurdDesk.NONE);
        due("a fraction again", x.reckon(2, 3, 3, 3), 1);
        due("root of 2", x.root(2, 3), 0);
    }

    private void rootBelowZero() {
        fill();
        load(3, -1, BILLION);
        stays("just below", () -> x.root(2, 3), SurdDesk.NONE);
        stays("into itself", () -> x.root(3, 3), SurdDesk.NONE);
        load(3, -4, 1);
        stays("less a square", () -> x.root(2, 3), SurdDesk.NONE);
        load(3, -BILLION, 1);
        stays("before FULL", () -> x.root(2, 3), SurdDesk.NONE);
        load(3, -100_000_001, 1);
        stays("before FULL", () -> x.root(2, 3), SurdDesk.NONE);
        load(3, 1, 100_000_000);
        due("just above", x.root(2, 3), 0);
        is(2, "1/10000*1");
    }

    private void rootFull() {
        fill();
        rooted(100_000_000, 1, "10000/1*1");
        rooted(1, 100_000_000, "1/10000*1");
        rooted(256, 390_625, "16/625*1");
        rooted(390_625, 256, "625/16*1");
        rooted(10_000, 9_999, "100/3333*1111");
        long[][] above = {{100_000_001, 1}, {1, 100_000_001}, {17, 5_882_353}, {5_882_353, 17}, {10_001, 10_000},
            {BILLION, 1}, {1, BILLION}, {BILLION, 999_999_999}, {65_536, 65_537}};
        for (long[] f : above) {
            load(0, f[0], f[1]);
            stays("root of " + f[0] + " / " + f[1], () -> x.root(1, 0), SurdDesk.FULL);
            stays("into itself", () -> x.root(0, 0), SurdDesk.FULL);
        }
    }

    private void reckonOps() {
        fill();
        loadRoot(0, 2, 1);
        loadRoot(7, 3, 1);
        changesAlone(5, "sum", () -> x.reckon(0, 5, 0, 7), 2);
        is(5, "1/1*2 1/1*3");
        changesAlone(4, "difference", () -> x.reckon(1, 4, 0, 7), 2);
        is(4, "1/1*2 -1/1*3");
        changesAlone(3, "product", () -> x.reckon(2, 3, 0, 7), 1);
        is(3, "1/1*6");
        changesAlone(0, "0 terms", () -> x.reckon(1, 0, 7, 7), 0);
        changesAlone(7, "into the last", () -> x.reckon(0, 7, 0, 0), 0);
        is(7, "");
    }

    private void reckonTaken() {
        plus(0, 3, 4, 1);
        plus(0, -5, 6, 2);
        due("0 less it", x.reckon(1, 1, 5, 0), 2);
        is(1, "-3/4*1 5/6*2");
        load(2, BILLION, 1);
        due("10^9 less itself", x.reckon(1, 3, 2, 2), 0);
        due("0 less 10^9", x.reckon(1, 3, 3, 2), 1);
        is(3, "-1000000000/1*1");
        due("0 less -10^9", x.reckon(1, 3, 5, 3), 1);
        is(3, "1000000000/1*1");
        stays("10^9 less -10^9", () -> {
            x.load(4, -BILLION, 1);
            long answer = x.reckon(1, 3, 3, 4);
            x.load(4, 0, 1);
            return answer;
        }, SurdDesk.FULL);
    }

    private void reckonProducts() {
        plus(0, 1, 1, 1);
        plus(0, 1, 1, 2);
        due("0 times it", x.reckon(2, 1, 5, 0), 0);
        due("it times 0", x.reckon(2, 1, 0, 5), 0);
        due("0 times 0", x.reckon(2, 1, 5, 5), 0);
        load(1, 1, 1);
        due("times 1", x.reckon(2, 2, 0, 1), 2);
        is(2, "1/1*1 1/1*2");
        plus(3, 1, 1, 1);
        plus(3, -1, 1, 2);
        due("terms that go", x.reckon(2, 3, 0, 3), 1);
        is(3, "-1/1*1");
        // What k held before is not added to.
        load(4, 100, 1);
        due("over something", x.reckon(2, 4, 0, 1), 2);
        is(4, "1/1*1 1/1*2");
    }

    private void reckonSame() {
        for (int k = 0; k < 8; k++) {
            int all = k;
            loadRoot(k, 2, 1);
            changesAlone(k, "all three, sum", () -> x.reckon(0, all, all, all), 1);
            is(k, "2/1*2");
            changesAlone(k, "all three, product", () -> x.reckon(2, all, all, all), 1);
            is(k, "8/1*1");
            changesAlone(k, "all three, difference", () -> x.reckon(1, all, all, all), 0);
            is(k, "");
        }
        plus(1, 1, 1, 1);
        plus(1, 1, 1, 2);
        plus(2, 1, 1, 1);
        plus(2, -1, 1, 3);
        due("k is i", x.reckon(0, 1, 1, 2), 3);
        is(1, "2/1*1 1/1*2 -1/1*3");
        due("k is j", x.reckon(1, 2, 1, 2), 2);
        is(2, "1/1*1 1/1*2");
        due("i is j", x.reckon(2, 3, 2, 2), 2);
        is(3, "3/1*1 2/1*2");
        due("k is i, product", x.reckon(2, 3, 3, 2), 2);
        is(3, "7/1*1 5/1*2");
        due("k is j, product", x.reckon(2, 3, 2, 3), 2);
        is(3, "17/1*1 12/1*2");
        is(2, "1/1*1 1/1*2");
    }

    private void reckonOtherOp() {
        fill();
        for (int op : new int[] {-1, 3, 4, -2, 258, Integer.MIN_VALUE, Integer.MAX_VALUE}) {
            stays("op " + op, () -> x.reckon(op, 0, 1, 2), SurdDesk.REFUSED);
        }
        due("the first", x.reckon(0, 0, 1, 1), 1);
        due("the last", x.reckon(2, 0, 1, 1), 1);
    }

    private void reckonOtherRegister() {
        fill();
        load(0, BILLION, 1);
        for (int k : OTHERS) {
            for (int op = 0; op < 3; op++) {
                int chosen = op;
                stays("k", () -> x.reckon(chosen, k, 1, 2), SurdDesk.REFUSED);
                stays("i", () -> x.reckon(chosen, 1, k, 2), SurdDesk.REFUSED);
                stays("j", () -> x.reckon(chosen, 1, 2, k), SurdDesk.REFUSED);
                stays("all", () -> x.reckon(chosen, k, k, k), SurdDesk.REFUSED);
            }
            stays("also if it would be FULL", () -> x.reckon(2, k, 0, 0), SurdDesk.REFUSED);
        }
    }

    private void reckonFull() {
        fill();
        load(0, BILLION, 1);
        load(1, 1, 1);
        stays("into i", () -> x.reckon(0, 0, 0, 1), SurdDesk.FULL);
        stays("into j", () -> x.reckon(0, 1, 0, 1), SurdDesk.FULL);
        stays("into another", () -> x.reckon(0, 2, 0, 1), SurdDesk.FULL);
        stays("into all", () -> x.reckon(2, 0, 0, 0), SurdDesk.FULL);
        // One term would do, the next one would not.
        load(2, 1, 1);
        plus(0, 1, 1, 2);
        plus(2, -BILLION, 1, 2);
        stays("after one term, into i", () -> x.reckon(1, 2, 2, 0), SurdDesk.FULL);
        stays("after one term, into j", () -> x.reckon(1, 0, 2, 0), SurdDesk.FULL);
        stays("after some products", () -> x.reckon(2, 1, 2, 0), SurdDesk.FULL);
        due("what it told before, it tells still", x.floor(2), -1_414_213_562L);
        stays("once more", () -> x.reckon(1, 2, 2, 0), SurdDesk.FULL);
        due("ENDS stay, too", x.floor(2), -1_414_213_562L);
    }

    private void divideOne() {
        fill();
        load(0, 0, 1);
        plus(0, 1, 1, 2);
        plus(0, 1, 1, 3);
        one(5, 1, 1, 3);
        changesAlone(4, "two terms", () -> x.divide(4, 0, 5), 2);
        is(4, "1/1*1 1/3*6");
        load(5, 3, 4);
        changesAlone(4, "by a fraction", () -> x.divide(4, 0, 5), 2);
        is(4, "4/3*2 4/3*3");
        changesAlone(4, "0 by it", () -> x.divide(4, 7, 5), 0);
        is(4, "");
    }

    private void divideInverse() {
        fill();
        load(3, 1, 1);
        // n r is 10^9, then 7 11 13 19 52579, 10^9 + 1.
        one(0, 100_000_000, 1, 10);
        changesAlone(4, "n r is 10^9", () -> x.divide(4, 3, 0), 1);
        is(4, "1/1000000000*10");
        one(0, 1001, 1, 999_001);
        stays("n r is 10^9 + 1", () -> x.divide(4, 3, 0), SurdDesk.FULL);
        stays("into itself", () -> x.divide(0, 3, 0), SurdDesk.FULL);
        stays("itself by itself", () -> x.divide(4, 0, 0), SurdDesk.FULL);
        load(5, 0, 1);
        stays("0 by it", () -> x.divide(4, 5, 0), SurdDesk.FULL);
        one(0, -1001, 1, 999_001);
        stays("below 0", () -> x.divide(4, 3, 0), SurdDesk.FULL);
        one(0, 1001, 19, 999_001);
        changesAlone(4, "lowest terms", () -> x.divide(4, 3, 0), 1);
        is(4, "1/52631579*999001");
        one(0, BILLION, 1, 99_999_989);
        stays("n r near 10^17", () -> x.divide(4, 3, 0), SurdDesk.FULL);
        load(0, BILLION, 1);
        due("r 1", x.divide(4, 3, 0), 1);
        is(4, "1/1000000000*1");
        load(0, 1, BILLION);
        due("d 10^9", x.divide(4, 3, 0), 1);
        is(4, "1000000000/1*1");
    }

    private void divideSigns() {
        load(0, 1, 1);
        load(1, -1, 1);
        one(2, -3, 4, 5);
        due("by one below 0", x.divide(3, 0, 2), 1);
        is(3, "-4/15*5");
        due("both below 0", x.divide(3, 1, 2), 1);
        is(3, "4/15*5");
        one(2, -1001, 19, 999_001);
        due("in lowest terms", x.divide(3, 0, 2), 1);
        is(3, "-1/52631579*999001");
        load(2, -BILLION, 1);
        due("by -10^9", x.divide(3, 0, 2), 1);
        is(3, "-1/1000000000*1");
        load(2, -1, BILLION);
        due("by -1 / 10^9", x.divide(3, 0, 2), 1);
        is(3, "-1000000000/1*1");
    }

    private void divideSame() {
        one(0, -7, 3, 10);
        due("all three", x.divide(0, 0, 0), 1);
        is(0, "1/1*1");
        plus(1, 6, 1, 1);
        plus(1, 3, 1, 2);
        one(2, 3, 1, 2);
        due("k is i", x.divide(1, 1, 2), 2);
        is(1, "1/1*1 1/1*2");
        is(2, "3/1*2");
        due("k is j", x.divide(2, 1, 2), 2);
        is(2, "1/3*1 1/6*2");
        is(1, "1/1*1 1/1*2");
    }

    private void divideOther() {
        fill();
        one(3, 1001, 1, 999_001);
        for (int k : OTHERS) {
            stays("k", () -> x.divide(k, 0, 1), SurdDesk.REFUSED);
            stays("i", () -> x.divide(0, k, 1), SurdDesk.REFUSED);
            stays("j", () -> x.divide(0, 1, k), SurdDesk.REFUSED);
            stays("k, before NONE", () -> x.divide(k, 0, 7), SurdDesk.REFUSED);
            stays("i, before NONE", () -> x.divide(0, k, 7), SurdDesk.REFUSED);
            stays("k, before FULL", () -> x.divide(k, 0, 3), SurdDesk.REFUSED);
            stays("i, before FULL", () -> x.divide(0, k, 3), SurdDesk.REFUSED);
        }
    }

    private void divideNone() {
        fill();
        load(4, 0, 1);
        stays("by 0", () -> x.divide(3, 0, 4), SurdDesk.NONE);
        stays("0 by 0", () -> x.divide(4, 4, 4), SurdDesk.NONE);
        load(4, 1, 1);
        due("one term", x.divide(3, 0, 4), 1);
        due("two terms", x.reckon(0, 4, 4, 1), 2);
        stays("by two terms", () -> x.divide(3, 0, 4), SurdDesk.NONE);
        stays("two by two", () -> x.divide(4, 4, 4), SurdDesk.NONE);
        load(5, 0, 1);
        plus(5, BILLION, 1, 99_999_989);
        plus(5, 1, 1, 2);
        stays("before FULL", () -> x.divide(3, 0, 5), SurdDesk.NONE);
    }

    private void divideFull() {
        fill();
        load(0, 500_000_000, 1);
        load(1, 1, 2);
        due("n is 10^9", x.divide(2, 0, 1), 1);
        is(2, "1000000000/1*1");
        load(0, 142_857_143, 1);
        load(1, 1, 7);
        stays("n is 10^9 + 1", () -> x.divide(2, 0, 1), SurdDesk.FULL);
        stays("into i", () -> x.divide(0, 0, 1), SurdDesk.FULL);
        stays("into j", () -> x.divide(1, 0, 1), SurdDesk.FULL);
        load(0, 1, 142_857_143);
        load(1, 7, 1);
        stays("d is 10^9 + 1", () -> x.divide(2, 0, 1), SurdDesk.FULL);
        load(0, 1, 500_000_000);
        load(1, 2, 1);
        due("d is 10^9", x.divide(2, 0, 1), 1);
        is(2, "1/1000000000*1");
        one(0, 1, 1, 1001);
        one(1, 1, 1, 999_001);
        stays("r is 10^9 + 1", () -> x.divide(2, 0, 1), SurdDesk.FULL);
        one(0, 1, 1, 1382);
        one(1, 1, 1, 723_589);
        due("r is 999999998", x.divide(2, 0, 1), 1);
        is(2, "1/723589*999999998");
        // The first term would do, the second one would not.
        load(0, 1, 1);
        plus(0, BILLION, 1, 2);
        load(1, 1, 2);
        stays("after one term", () -> x.divide(0, 0, 1), SurdDesk.FULL);
    }
}
