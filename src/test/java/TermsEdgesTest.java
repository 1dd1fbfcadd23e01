import java.math.BigInteger;

/** Boundary cases that 'What it is', 'Terms' and promise 1 name, each sentence by a test of its own. */
public final class TermsEdgesTest extends Bench {
    private static final long[] PRIMES = {2, 3, 5, 7, 11, 13, 17, 19};

    public static void main(String[] args) {
        TermsEdgesTest t = new TermsEdgesTest();
        t.sentence("at most 512 calls after it has been made", t::calls);
        t.limits();
        t.kinds();
        t.sums();
        t.products();
        t.firstState();
        t.check.end("TermsEdgesTest");
    }

    private void limits() {
        sentence("n from -10^9 to 10^9, loaded", this::topLoaded);
        sentence("n from -10^9 to 10^9, added", this::topAdded);
        sentence("n from -10^9 to 10^9, multiplied", this::topMultiplied);
        sentence("n from -10^9 to 10^9, multiplied by g", this::topMultipliedByDivisor);
        sentence("n is not 0", this::topIsNotZero);
        sentence("d from 1 to 10^9, loaded", this::bottomLoaded);
        sentence("d from 1 to 10^9, added", this::bottomAdded);
        sentence("d from 1 to 10^9, multiplied", this::bottomMultiplied);
        sentence("d without a common divisor with n", this::lowestTerms);
        sentence("r from 1 to 10^9", this::radicand);
        sentence("r with no square above 1 that divides it", this::squareFree);
        sentence("at most 8 TERMS", this::atMostEight);
        sentence("by rising r, all different", this::byRisingRadicand);
        sentence("none: 0", this::noTermIsZero);
        sentence("REGISTERS 0 to 7 hold numbers, 0 at first", this::registers);
    }

    private void kinds() {
        sentence("numbers are the same only if their terms are", this::sameOnlyByTerms);
        sentence("a FRACTION if it has no term", this::noTermIsFraction);
        sentence("a FRACTION if it has one alone, with r 1", this::oneTermIsFraction);
        sentence("w is the greatest whole number not above the size of the term times 2^1024", this::sizeOfTerm);
        sentence("LOW: w of the terms above 0, less w + 1 of those below 0; HIGH: w + 1, less w", this::lowAndHigh);
        sentence("of FRACTIONS all is told", this::allOfFractions);
    }

    private void sums() {
        sentence("ADD one by one, in their order", this::inTheirOrder);
        sentence("the fractions are added in lowest terms", this::addedInLowestTerms);
        sentence("0: it goes", this::itGoes);
        sentence("else it comes there", this::itComes);
        sentence("FULL if n is too great then", this::topTooGreatThen);
        sentence("FULL if d is too great then", this::bottomTooGreatThen);
        sentence("FULL if there are 9", this::nine);
    }

    private void products() {
        sentence("r: theirs multiplied and divided by g g", this::radicandOfProduct);
        sentence("the fractions multiplied, and by g", this::fractionOfProduct);
        sentence("FULL if n in lowest terms is too great", this::topOfProduct);
        sentence("FULL if d in lowest terms is too great", this::bottomOfProduct);
        sentence("FULL if r is too great", this::radicandTooGreat);
        sentence("OUT has bytes, none at first", this::outAtFirst);
    }

    private void firstState() {
        sentence("Promise 1: terms, term", this::newTerms);
        sentence("Promise 1: floor, partial, nearest", this::newWholes);
        sentence("Promise 1: compare, same, between", this::newPairs);
        sentence("Promise 1: root, reckon, divide", this::newReckoned);
        sentence("Promise 1: write", this::newWritten);
        sentence("Promise 1: octet", this::outAtFirst);
        sentence("Promise 1: each object has a state of its own", this::twoObjects);
    }

    private void calls() {
        loadRoot(0, 2, 1);
        for (int call = 3; call <= 509; call++) {
            due("call " + call, call % 3 == 0 ? x.write(0, 80) : call % 3 == 1 ? x.partial(0, 24) : x.reckon(0, 1, 0, 1),
                call % 3 == 0 ? 82 : call % 3 == 1 ? 2 : 1);
        }
        due("call 510", x.term(1, 0, 0), 169);
        due("call 511", x.octet(81), '3');
        due("call 512", x.floor(1), 239);
    }

    private void topLoaded() {
        load(0, BILLION, 1);
        is(0, "1000000000/1*1");
        load(1, -BILLION, 1);
        is(1, "-1000000000/1*1");
        stays("above", () -> x.load(0, BILLION + 1, 1), SurdDesk.FULL);
        stays("below", () -> x.load(1, -BILLION - 1, 1), SurdDesk.FULL);
    }

    private void topAdded() {
        for (long r : new long[] {1, 2}) {
            one(0, BILLION - 1, 1, r);
            one(1, 1, 1, r);
            one(2, 1 - BILLION, 1, r);
            due("last above 0", x.reckon(0, 0, 0, 1), 1);
            is(0, "1000000000/1*" + r);
            due("last below 0", x.reckon(1, 2, 2, 1), 1);
            is(2, "-1000000000/1*" + r);
            stays("one more", () -> x.reckon(0, 0, 0, 1), SurdDesk.FULL);
            stays("one less", () -> x.reckon(1, 2, 2, 1), SurdDesk.FULL);
            stays("into another", () -> x.reckon(1, 5, 2, 1), SurdDesk.FULL);
            stays("twice as great", () -> x.reckon(1, 2, 2, 0), SurdDesk.FULL);
        }
    }

    private void topMultiplied() {
        load(0, 500_000_000, 1);
        load(1, 2, 1);
        due("last", x.reckon(2, 2, 0, 1), 1);
        is(2, "1000000000/1*1");
        load(1, -2, 1);
        due("last below 0", x.reckon(2, 2, 0, 1), 1);
        is(2, "-1000000000/1*1");
        // 7 times 142857143 is 10^9 + 1.
        load(0, 142_857_143, 1);
        load(1, 7, 1);
        load(3, -7, 1);
        stays("first that is not", () -> x.reckon(2, 2, 0, 1), SurdDesk.FULL);
        stays("first that is not, below 0", () -> x.reckon(2, 2, 0, 3), SurdDesk.FULL);
        load(0, BILLION, 1);
        stays("10^18", () -> x.reckon(2, 2, 0, 0), SurdDesk.FULL);
    }

    private void topMultipliedByDivisor() {
        one(0, 100_000_000, 1, 10);
        one(1, -1, 1, 10);
        due("last", x.reckon(2, 2, 0, 1), 1);
        is(2, "-1000000000/1*1");
        one(0, 142_857_143, 1, 7);
        one(1, 1, 1, 7);
        one(3, -1, 1, 7);
        stays("first that is not", () -> x.reckon(2, 2, 0, 1), SurdDesk.FULL);
        stays("first that is not, below 0", () -> x.reckon(2, 2, 0, 3), SurdDesk.FULL);
        one(0, BILLION, 1, 99_999_989);
        stays("beyond a long", () -> x.reckon(2, 2, 0, 0), SurdDesk.FULL);
    }

    private void topIsNotZero() {
        load(0, 5, 3);
        load(0, 0, 3);
        due("loaded", x.terms(0), 0);
        loadRoot(0, 3, 1);
        due("multiplied", x.reckon(2, 0, 0, 5), 0);
        due("no term", x.term(0, 0, 0), SurdDesk.NONE);
        due("root", x.root(1, 5), 0);
        due("no term", x.term(1, 0, 0), SurdDesk.NONE);
    }

    private void bottomLoaded() {
        load(0, 1, BILLION);
        is(0, "1/1000000000*1");
        load(1, 5, 1);
        is(1, "5/1*1");
        stays("above", () -> x.load(0, 1, BILLION + 1), SurdDesk.FULL);
        stays("below 0", () -> x.load(0, 1, -BILLION - 1), SurdDesk.FULL);
    }

    private void bottomAdded() {
        for (long r : new long[] {1, 2}) {
            one(0, 1, 512, r);
            one(1, 1, 1_953_125, r);
            due("last", x.reckon(0, 2, 0, 1), 1);
            is(2, "1953637/1000000000*" + r);
            one(0, 1, 7, r);
            one(1, 1, 142_857_143, r);
            stays("first that is not", () -> x.reckon(0, 2, 0, 1), SurdDesk.FULL);
            stays("less", () -> x.reckon(1, 0, 0, 1), SurdDesk.FULL);
        }
    }

    private void bottomMultiplied() {
        load(0, 1, 500_000_000);
        load(1, 1, 2);
        due("last", x.reckon(2, 2, 0, 1), 1);
        is(2, "1/1000000000*1");
        load(0, 1, 142_857_143);
        load(1, 1, 7);
        stays("first that is not", () -> x.reckon(2, 2, 0, 1), SurdDesk.FULL);
        load(0, 1, BILLION);
        stays("10^18", () -> x.reckon(2, 0, 0, 0), SurdDesk.FULL);
    }

    private void lowestTerms() {
        load(0, 6, 4);
        is(0, "3/2*1");
        load(1, -999_999_999, 999_999_999);
        is(1, "-1/1*1");
        load(1, 1, 6);
        due("added", x.reckon(0, 2, 0, 1), 1);
        is(2, "5/3*1");
        due("taken", x.reckon(1, 2, 0, 1), 1);
        is(2, "4/3*1");
        due("multiplied", x.reckon(2, 2, 2, 0), 1);
        is(2, "2/1*1");
        load(3, 1, 50);
        due("root", x.root(3, 3), 0);
        is(3, "1/10*2");
        one(4, 1, 6, 15);
        due("multiplied by g", x.reckon(2, 5, 4, 4), 1);
        is(5, "5/12*1");
        due("divided", x.divide(5, 0, 4), 1);
        is(5, "3/5*15");
    }

    private void radicand() {
        loadRoot(0, 9, 1);
        is(0, "3/1*1");
        loadRoot(0, 1382, 1);
        loadRoot(1, 723_589, 1);
        due("the greatest that there is", x.reckon(2, 2, 0, 1), 1);
        is(2, "1/1*999999998");
        loadRoot(0, 1001, 1);
        loadRoot(1, 999_001, 1);
        stays("10^9 + 1", () -> x.reckon(2, 2, 0, 1), SurdDesk.FULL);
        loadRoot(0, 99_999_989, 1);
        loadRoot(1, 99_999_971, 1);
        stays("near 10^16", () -> x.reckon(2, 2, 0, 1), SurdDesk.FULL);
    }

    private void squareFree() {
        loadRoot(0, 12, 1);
        is(0, "2/1*3");
        loadRoot(0, 99_999_999, 1);
        is(0, "3/1*11111111");
        loadRoot(0, 6, 1);
        loadRoot(1, 10, 1);
        due("a product", x.reckon(2, 0, 0, 1), 1);
        is(0, "2/1*15");
        due("a square", x.reckon(2, 0, 0, 0), 1);
        is(0, "60/1*1");
    }

    private void eight(int k) {
        for (long p : PRIMES) {
            plus(k, 1, 1, p);
        }
    }

    private void atMostEight() {
        eight(0);
        due("eight", x.terms(0), 8);
        loadRoot(1, 23, 1);
        stays("nine, added", () -> x.reckon(0, 0, 0, 1), SurdDesk.FULL);
        stays("nine, the other way round", () -> x.reckon(0, 1, 1, 0), SurdDesk.FULL);
        stays("nine, taken", () -> x.reckon(1, 2, 0, 1), SurdDesk.FULL);
        due("eight products", x.reckon(2, 2, 0, 1), 8);
        load(3, 1, 1);
        due("two terms", x.reckon(0, 3, 3, 1), 2);
        stays("sixteen products", () -> x.reckon(2, 2, 0, 3), SurdDesk.FULL);
        load(4, 5, 1);
        due("divided", x.divide(0, 0, 4), 8);
    }

    private void byRisingRadicand() {
        for (int k = PRIMES.length - 1; k >= 0; k--) {
            plus(0, 1, 1, PRIMES[k]);
        }
        is(0, "1/1*2 1/1*3 1/1*5 1/1*7 1/1*11 1/1*13 1/1*17 1/1*19");
        due("all different", x.reckon(0, 0, 0, 0), 8);
        is(0, "2/1*2 2/1*3 2/1*5 2/1*7 2/1*11 2/1*13 2/1*17 2/1*19");
        plus(1, 1, 1, 999);
        plus(1, 1, 1, 1000);
        plus(1, 1, 1, 1001);
        is(1, "10/1*10 3/1*111 1/1*1001");
    }

    private void noTermIsZero() {
        loadRoot(0, 2, 1);
        due("less itself", x.reckon(1, 0, 0, 0), 0);
        due("terms", x.terms(0), 0);
        due("floor", x.floor(0), 0);
        due("partial", x.partial(0, 1), TWO_62);
        due("nearest", x.nearest(0), 0);
        due("same", x.same(0, 5), true);
        written(0, 2, "0.00");
    }

    private void registers() {
        for (int k = 0; k < 8; k++) {
            due("0 at first", x.terms(k), 0);
            load(k, k + 1, 1);
        }
        for (int k = 0; k < 8; k++) {
            is(k, (k + 1) + "/1*1");
        }
        stays("before the first", () -> x.load(-1, 1, 1), SurdDesk.REFUSED);
        stays("behind the last", () -> x.load(8, 1, 1), SurdDesk.REFUSED);
    }

    private void sameOnlyByTerms() {
        loadRoot(0, 8, 1);
        one(1, 2, 1, 2);
        due("same", x.same(0, 1), true);
        due("compare", x.compare(0, 1), 0);
        // 543339720 times the root of 2 is 768398401, but for some 10^-9.
        one(2, 543_339_720, 1, 2);
        load(3, 768_398_401, 1);
        due("near is not the same", x.same(2, 3), false);
        due("compare", x.compare(2, 3), -1);
    }

    private void noTermIsFraction() {
        due("root", x.root(1, 0), 0);
        due("partial", x.partial(0, 1), TWO_62);
        due("write", x.write(0, 0), 1);
        due("nearest", x.nearest(0), 0);
    }

    private void oneTermIsFraction() {
        load(0, 9, 4);
        due("r 1", x.root(1, 0), 0);
        loadRoot(2, 2, 1);
        stays("r 2", () -> x.root(1, 2), SurdDesk.NONE);
        due("1 and 2", x.reckon(0, 3, 0, 2), 2);
        stays("two terms", () -> x.root(1, 3), SurdDesk.NONE);
        due("one again", x.reckon(1, 3, 3, 2), 1);
        due("r 1", x.root(1, 3), 0);
        due("a fraction ends", x.partial(3, 2), TWO_62);
    }

    private void endsAre(int k, BigInteger low, BigInteger high) {
        x.floor(k);
        due("LOW", endOf(k, false).toString(), low.toString());
        due("HIGH", endOf(k, true).toString(), high.toString());
    }

    private static BigInteger rootOf(long r) {
        return SCALE.multiply(SCALE).multiply(BigInteger.valueOf(r)).sqrt();
    }

    private void sizeOfTerm() {
        BigInteger w = rootOf(2);
        loadRoot(0, 2, 1);
        endsAre(0, w, w.add(ONE));
        // The size of a whole term is whole, so w is all of it.
        load(1, 3, 1);
        due("3 and a root", x.reckon(0, 1, 1, 0), 2);
        BigInteger three = SCALE.multiply(BigInteger.valueOf(3));
        endsAre(1, w.add(three), w.add(three).add(BigInteger.TWO));
        load(1, 1, 3);
        due("1/3 and a root", x.reckon(0, 1, 1, 0), 2);
        BigInteger third = SCALE.divide(BigInteger.valueOf(3));
        endsAre(1, w.add(third), w.add(third).add(BigInteger.TWO));
        // The fraction is within the size: not the root's w multiplied.
        one(1, 999_999_999, BILLION, 2);
        BigInteger nines = BigInteger.valueOf(999_999_999), tens = BigInteger.valueOf(BILLION);
        BigInteger square = SCALE.multiply(SCALE).multiply(BigInteger.TWO).multiply(nines).multiply(nines);
        BigInteger size = square.divide(tens.multiply(tens)).sqrt();
        endsAre(1, size, size.add(ONE));
    }

    private void lowAndHigh() {
        BigInteger two = rootOf(2), three = rootOf(3);
        one(0, -1, 1, 2);
        endsAre(0, two.negate().subtract(ONE), two.negate());
        plus(0, 1, 1, 3);
        endsAre(0, three.subtract(two).subtract(ONE), three.subtract(two).add(ONE));
        plus(0, -1, 1, 1);
        BigInteger middle = three.subtract(two).subtract(SCALE);
        endsAre(0, middle.subtract(BigInteger.TWO), middle.add(ONE));
        eight(1);
        BigInteger sum = BigInteger.ZERO;
        for (long p : PRIMES) {
            sum = sum.add(rootOf(p));
        }
        endsAre(1, sum, sum.add(BigInteger.valueOf(8)));
        due("less eight", x.reckon(1, 1, 7, 1), 8);
        endsAre(1, sum.negate().subtract(BigInteger.valueOf(8)), sum.negate());
    }

    /** ENDS of 1 would be 2^1024 and 2^1024 + 1, those of 0 and -1 would tell still less. */
    private void allOfFractions() {
        for (long whole : new long[] {0, 1, -1, BILLION, -BILLION}) {
            load(0, whole, 1);
            due("floor", x.floor(0), whole);
            due("partial", x.partial(0, 0), whole);
            due("it has ended", x.partial(0, 1), TWO_62);
            written(0, 0, Long.toString(whole));
            written(0, 80, whole + "." + "0".repeat(80));
            due("nearest", x.nearest(0), Double.doubleToRawLongBits((double) whole));
            due("between", x.between(0, 0), 0);
        }
    }

    private void inTheirOrder() {
        eight(0);
        load(1, 1, 1);
        loadRoot(2, 2, 1);
        due("1 - root of 2", x.reckon(1, 1, 1, 2), 2);
        stays("1 comes before the root of 2 goes", () -> x.reckon(0, 3, 0, 1), SurdDesk.FULL);
        loadRoot(1, 23, 1);
        due("root of 23 - root of 2", x.reckon(1, 1, 1, 2), 2);
        due("the root of 2 goes before that of 23 comes", x.reckon(0, 3, 0, 1), 8);
        is(3, "1/1*3 1/1*5 1/1*7 1/1*11 1/1*13 1/1*17 1/1*19 1/1*23");
    }

    private void addedInLowestTerms() {
        load(0, 1, BILLION);
        due("1 + 1 of 10^9", x.reckon(0, 1, 0, 0), 1);
        is(1, "1/500000000*1");
        load(0, 999_999_999, BILLION);
        load(1, 1, BILLION);
        due("all of 10^9", x.reckon(0, 2, 0, 1), 1);
        is(2, "1/1*1");
        one(0, BILLION, 999_999_999, 2);
        one(1, -1, 999_999_999, 2);
        due("with a root", x.reckon(0, 2, 0, 1), 1);
        is(2, "1/1*2");
    }

    private void itGoes() {
        plus(0, 1, 3, 1);
        plus(0, 2, 3, 2);
        plus(0, 4, 3, 3);
        one(1, -2, 3, 2);
        due("the one between", x.reckon(0, 2, 0, 1), 2);
        is(2, "1/3*1 4/3*3");
        one(1, 1, 3, 1);
        due("the first", x.reckon(1, 2, 2, 1), 1);
        is(2, "4/3*3");
        due("the last", x.reckon(1, 2, 2, 2), 0);
        is(2, "");
    }

    private void itComes() {
        one(0, 1, 1, 6);
        one(1, 1, 1, 5);
        due("in front", x.reckon(0, 0, 0, 1), 2);
        one(1, 1, 1, 7);
        due("behind", x.reckon(1, 0, 0, 1), 3);
        is(0, "1/1*5 1/1*6 -1/1*7");
        load(2, 0, 1);
        due("to nothing", x.reckon(0, 2, 2, 0), 3);
        is(2, "1/1*5 1/1*6 -1/1*7");
    }

    /** Register k becomes a sum of fractions times the roots of 2, 3 and 5. */
    private void three(int k, long[] tops, long[] bottoms) {
        load(k, 0, 1);
        for (int t = 0; t < 3; t++) {
            plus(k, tops[t], bottoms[t], PRIMES[t]);
        }
    }

    private void topTooGreatThen() {
        // 2 * 3 * 10^8, then 3 * 2 * 10^8 more, then 5 * 10^8 less.
        three(0, new long[] {30_000, 20_000, -10_000}, new long[] {1, 1, 1});
        three(1, new long[] {10_000, 10_000, 10_000}, new long[] {1, 1, 1});
        stays("12 * 10^8, before 5 * 10^8 go", () -> x.reckon(2, 2, 0, 1), SurdDesk.FULL);
        three(0, new long[] {30_000, -20_000, 10_000}, new long[] {1, 1, 1});
        due("0, then 5 * 10^8", x.reckon(2, 2, 0, 1), 4);
        is(2, "500000000/1*1 100000000/1*6 400000000/1*10 -100000000/1*15");
        three(0, new long[] {50_000, 1, -2}, new long[] {1, 1, 1});
        stays("10^9, then 30000 more", () -> x.reckon(2, 2, 0, 1), SurdDesk.FULL);
        three(0, new long[] {50_000, -2, 1}, new long[] {1, 1, 1});
        due("10^9, then 60000 less", x.reckon(2, 2, 0, 1), 4);
        is(2, "999990000/1*1 499980000/1*6 500010000/1*10 -10000/1*15");
    }

    /** 2 * 1013 / 1009000 + 3 * 1009 / 1013000 has d 1009 * 1013 * 1000, above 10^9. */
    private void bottomTooGreatThen() {
        three(0, new long[] {1, 1, -3}, new long[] {1_009_000, 1_013_000, 1_013_000});
        three(1, new long[] {1013, 1009, 1009}, new long[] {1, 1, 5});
        stays("before it goes", () -> x.reckon(2, 2, 0, 1), SurdDesk.FULL);
        three(0, new long[] {3, -2, 1}, new long[] {1_013_000, 1_013_000, 1_009_000});
        three(1, new long[] {1009, 1009, 1013}, new long[] {1, 1, 1});
        due("after it has gone", x.reckon(2, 2, 0, 1), 4);
        is(2, "1013/201800*1 1009/1013000*6 1/250*10 -1/1000*15");
    }

    private void nine() {
        eight(0);
        load(1, 1, 1);
        stays("in front", () -> x.reckon(0, 0, 0, 1), SurdDesk.FULL);
        loadRoot(1, 6, 1);
        stays("between", () -> x.reckon(0, 0, 0, 1), SurdDesk.FULL);
        loadRoot(1, 23, 1);
        stays("behind", () -> x.reckon(0, 0, 0, 1), SurdDesk.FULL);
        loadRoot(1, 19, 1);
        due("one that is there", x.reckon(0, 0, 0, 1), 8);
        three(2, new long[] {1, 1, 1}, new long[] {1, 1, 1});
        due("nine products, of four r", x.reckon(2, 3, 2, 2), 4);
        load(3, 0, 1);
        plus(3, 1, 1, 7);
        plus(3, 1, 1, 11);
        due("six products", x.reckon(2, 4, 2, 3), 6);
        plus(3, 1, 1, 13);
        stays("nine products, of nine r", () -> x.reckon(2, 4, 2, 3), SurdDesk.FULL);
    }

    private void radicandOfProduct() {
        one(0, 1, 1, 30);
        one(1, 1, 1, 42);
        due("g 6", x.reckon(2, 2, 0, 1), 1);
        is(2, "6/1*35");
        one(1, 1, 1, 7);
        due("g 1", x.reckon(2, 2, 0, 1), 1);
        is(2, "1/1*210");
        due("g is all", x.reckon(2, 2, 0, 0), 1);
        is(2, "30/1*1");
        load(1, 1, 1);
        due("r 1", x.reckon(2, 2, 0, 1), 1);
        is(2, "1/1*30");
    }

    private void fractionOfProduct() {
        one(0, -2, 3, 10);
        one(1, 5, 7, 15);
        due("by g", x.reckon(2, 2, 0, 1), 1);
        is(2, "-50/21*6");
        one(0, -2, 3, 2);
        one(1, -5, 7, 3);
        due("both below 0, g 1", x.reckon(2, 2, 0, 1), 1);
        is(2, "10/21*6");
    }

    private void topOfProduct() {
        load(0, BILLION, 1);
        load(1, 1, BILLION);
        due("lowest terms", x.reckon(2, 2, 0, 1), 1);
        is(2, "1/1*1");
        load(0, BILLION, 7);
        load(1, 7, 1);
        due("10^9", x.reckon(2, 2, 0, 1), 1);
        is(2, "1000000000/1*1");
        load(1, 14, 1);
        stays("twice 10^9", () -> x.reckon(2, 2, 0, 1), SurdDesk.FULL);
        // g goes into d before n is looked at.
        one(0, BILLION, 7, 7);
        one(1, 1, 1, 7);
        due("g / d", x.reckon(2, 2, 0, 1), 1);
        is(2, "1000000000/1*1");
    }

    private void bottomOfProduct() {
        one(0, 1, BILLION, 10);
        one(1, 1, 10, 10);
        due("g goes into d", x.reckon(2, 2, 0, 1), 1);
        is(2, "1/1000000000*1");
        one(1, 1, 11, 10);
        stays("11 * 10^8", () -> x.reckon(2, 2, 0, 1), SurdDesk.FULL);
        load(0, 7, BILLION);
        load(1, 1, 7);
        due("n goes into d", x.reckon(2, 2, 0, 1), 1);
        is(2, "1/1000000000*1");
        load(1, 1, 8);
        stays("8 * 10^9", () -> x.reckon(2, 2, 0, 1), SurdDesk.FULL);
    }

    private void radicandTooGreat() {
        one(0, 1, 1, 1382);
        one(1, 1, 1, 723_589);
        due("999999998", x.reckon(2, 2, 0, 1), 1);
        one(0, 1, 1, 1001);
        one(1, 1, 1, 999_001);
        stays("10^9 + 1", () -> x.reckon(2, 2, 0, 1), SurdDesk.FULL);
        one(0, 1, 1, 2002);
        one(1, 1, 1, 1_998_002);
        stays("10^9 + 1, with g 2", () -> x.reckon(2, 2, 0, 1), SurdDesk.FULL);
        one(0, 1, 1, 99_999_989);
        due("r r / (g g)", x.reckon(2, 2, 0, 0), 1);
        is(2, "99999989/1*1");
    }

    private void outAtFirst() {
        due("how many", x.octet(-1), 0);
        due("the first", x.octet(0), SurdDesk.NONE);
        due("one behind", x.octet(1), SurdDesk.NONE);
    }

    private void newTerms() {
        for (int i = 0; i < 8; i++) {
            due("terms", x.terms(i), 0);
            for (int what = 0; what < 3; what++) {
                due("term", x.term(i, 0, what), SurdDesk.NONE);
            }
        }
    }

    private void newWholes() {
        for (int i = 0; i < 8; i++) {
            due("floor", x.floor(i), 0);
            due("partial 0", x.partial(i, 0), 0);
            due("partial 1", x.partial(i, 1), TWO_62);
            due("partial 24", x.partial(i, 24), TWO_62);
            due("nearest", x.nearest(i), 0);
        }
    }

    private void newPairs() {
        for (int i = 0; i < 8; i++) {
            for (int j = 0; j < 8; j++) {
                due("compare", x.compare(i, j), 0);
                due("same", x.same(i, j), true);
                due("between", x.between(i, j), 0);
            }
        }
    }

    private void newReckoned() {
        for (int i = 0; i < 8; i++) {
            due("root", x.root(7 - i, i), 0);
            for (int op = 0; op < 3; op++) {
                due("reckon", x.reckon(op, 3, i, 7 - i), 0);
            }
            due("divide", x.divide(3, 3, i), SurdDesk.NONE);
        }
    }

    private void newWritten() {
        for (int i = 0; i < 8; i++) {
            x = new SurdDesk();
            written(i, 3, "0.000");
            written(i, 0, "0");
        }
    }

    private void twoObjects() {
        SurdDesk other = new SurdDesk();
        loadRoot(0, 2, 1);
        due("write", x.write(0, 10), 12);
        due("terms of the other", other.terms(0), 0);
        due("OUT of the other", other.octet(-1), 0);
        x = new SurdDesk();
        due("terms of a later one", x.terms(0), 0);
        due("OUT of a later one", x.octet(-1), 0);
    }
}
