import java.math.BigInteger;
import java.util.Random;

/**
 * "A calculator that tells no wrong digit": what is told of n / d times the root of r, and of sums
 * of two roots, is held against the number itself by whole-number inequalities, without a model.
 */
public final class DigitsTest extends Bench {
    private static final int TERMS = 400, PAIRS = 400;
    private static final long[][] EDGES = {{1, 1, 2}, {1, BILLION, 2}, {BILLION, 1, 2}, {1, 1, 99_999_989}, {BILLION, 1, 99_999_989},
        {1, BILLION, 99_999_989}, {999_999_937, 999_999_999, 3}, {225_058_681, 1, 2}, {543_339_720, 1, 2}, {70, 99, 2}, {1, 1, 65_537}};

    private final Random random = new Random(23);

    public static void main(String[] args) {
        DigitsTest t = new DigitsTest();
        for (long[] edge : EDGES) {
            t.look(edge[0], edge[1], edge[2]);
        }
        for (int k = 0; k < TERMS; k++) {
            t.look(t.any(30), t.random.nextBoolean() ? 1 : t.any(30), t.radicand());
        }
        for (int k = 0; k < PAIRS; k++) {
            t.sentence("digits of two roots", () -> t.twoRoots(t.radicand(), t.radicand()));
        }
        t.sentence("to whatever place is asked", t::everyPlace);
        t.check.end("DigitsTest");
    }

    private long any(int bits) {
        return Math.min(BILLION, 1 + (random.nextLong() >>> 63 - random.nextInt(bits)));
    }

    private long radicand() {
        long r = any(26);
        while (r == 1 || !EndsTest.isSquareFree(r)) {
            r = any(26);
        }
        return r;
    }

    private static BigInteger big(long a) {
        return BigInteger.valueOf(a);
    }

    private void look(long n, long d, long r) {
        sentence("whole parts of " + n + " / " + d + " root " + r, () -> wholePart(n, d, r));
        sentence("digits of " + n + " / " + d + " root " + r, () -> digits(n, d, r));
        sentence("fractions in fractions of " + n + " / " + d + " root " + r, () -> fractions(n, d, r));
        sentence("nearest double of " + n + " / " + d + " root " + r, () -> nearestDouble(n, d, r));
        sentence("the number times 2^1024 is from LOW to HIGH", () -> ends(n, d, r));
    }

    /** The sign of upper / lower less n / d times the root of r, by their squares. */
    private static int side(BigInteger upper, BigInteger lower, long n, long d, long r) {
        BigInteger left = upper.multiply(big(d)).pow(2);
        BigInteger right = lower.multiply(big(n)).pow(2).multiply(big(r));
        return upper.signum() < 0 ? -1 : left.compareTo(right);
    }

    private void isBetween(String what, BigInteger below, BigInteger above, BigInteger lower, long[] term) {
        due(what + ": not above it", side(below, lower, term[0], term[1], term[2]) <= 0, true);
        due(what + ": not below it", side(above, lower, term[0], term[1], term[2]) >= 0, true);
    }

    private void wholePart(long n, long d, long r) {
        one(0, n, d, r);
        BigInteger found = big(x.floor(0));
        isBetween("floor", found, found.add(ONE), ONE, new long[] {n, d, r});
        one(0, -n, d, r);
        due("floor below 0", x.floor(0), -found.longValueExact() - 1);
    }

    private void digits(long n, long d, long r) {
        one(0, n, d, r);
        for (int places : new int[] {0, 1, 17, 79, 80}) {
            due("bytes", x.write(0, places), x.octet(-1));
            BigInteger found = new BigInteger(out().replace(".", ""));
            isBetween(places + " places", found, found.add(ONE), BigInteger.TEN.pow(places), new long[] {n, d, r});
        }
        String above = out();
        one(0, -n, d, r);
        written(0, 80, "-" + above);
    }

    /** Cut off behind an even place a fraction in fractions is below the number, else above it. */
    private void fractions(long n, long d, long r) {
        one(0, n, d, r);
        BigInteger top = ONE, topBefore = BigInteger.ZERO, bottom = BigInteger.ZERO, bottomBefore = ONE;
        for (int k = 0; k <= 24 && x.partial(0, k) < TWO_62 - 1; k++) {
            BigInteger whole = big(x.partial(0, k));
            BigInteger nextTop = whole.multiply(top).add(topBefore), nextBottom = whole.multiply(bottom).add(bottomBefore);
            topBefore = top;
            bottomBefore = bottom;
            top = nextTop;
            bottom = nextBottom;
            due("cut off behind " + k, side(top, bottom, n, d, r), k % 2 == 0 ? -1 : 1);
            due("whole number " + k, k == 0 || whole.signum() > 0, true);
        }
    }

    private void nearestDouble(long n, long d, long r) {
        one(0, n, d, r);
        long bits = x.nearest(0);
        double found = Double.longBitsToDouble(bits);
        int power = Math.getExponent(found) - 54;
        // In quarters of the last bit: two of them on either side, but one below a power of 2.
        BigInteger middle = big((long) Math.scalb(found, -power));
        BigInteger below = middle.subtract((bits & (1L << 52) - 1) == 0 ? ONE : BigInteger.TWO);
        BigInteger upper = power > 0 ? ONE.shiftLeft(power) : ONE, lower = power > 0 ? ONE : ONE.shiftLeft(-power);
        BigInteger above = middle.add(BigInteger.TWO);
        isBetween("nearest", below.multiply(upper), above.multiply(upper), lower, new long[] {n, d, r});
        one(0, -n, d, r);
        due("nearest below 0", x.nearest(0), bits | Long.MIN_VALUE);
    }

    private void ends(long n, long d, long r) {
        one(0, n, d, r);
        x.floor(0);
        isBetween("ENDS", endOf(0, false), endOf(0, true), SCALE, new long[] {n, d, r});
        due("they are 1 apart", endOf(0, true).subtract(endOf(0, false)).intValue(), 1);
        one(1, -n, d, r);
        x.floor(1);
        due("LOW below 0", endOf(1, false).negate().equals(endOf(0, true)), true);
        due("HIGH below 0", endOf(1, true).negate().equals(endOf(0, false)), true);
    }

    /** The sign of upper / lower less the sum of the roots of a and b: squared, then squared again. */
    private static int sideOfTwo(BigInteger upper, BigInteger lower, long a, long b) {
        BigInteger left = upper.pow(2).subtract(lower.pow(2).multiply(big(a + b)));
        BigInteger right = lower.pow(4).multiply(big(4)).multiply(big(a)).multiply(big(b));
        return left.signum() < 0 ? -1 : left.pow(2).compareTo(right);
    }

    private void twoRoots(long a, long b) {
        loadRoot(0, a, 1);
        loadRoot(1, b, 1);
        due("sum", x.reckon(0, 0, 0, 1), a == b ? 1 : 2);
        int places = random.nextInt(81);
        due("bytes", x.write(0, places), x.octet(-1));
        BigInteger found = new BigInteger(out().replace(".", "")), lower = BigInteger.TEN.pow(places);
        due("not above it", sideOfTwo(found, lower, a, b) <= 0, true);
        due("not below it", sideOfTwo(found.add(ONE), lower, a, b) > 0, true);
        BigInteger whole = big(x.floor(0));
        due("floor not above it", sideOfTwo(whole, ONE, a, b) <= 0, true);
        due("floor not below it", sideOfTwo(whole.add(ONE), ONE, a, b) > 0, true);
    }

    /** What is told to fewer places is what is told to more, cut off; and the whole part is the floor. */
    private void everyPlace() {
        for (int turn = 0; turn < 20; turn++) {
            load(0, 0, 1);
            for (long p : new long[] {1, 2, 3, 5, 7, 11, 13, 17}) {
                plus(0, any(20) - (1 << 19), any(8), p);
            }
            due("write", x.write(0, 80) > 80, true);
            String all = out();
            boolean isBelow = all.startsWith("-");
            due("floor", x.floor(0), Long.parseLong(all.substring(0, all.length() - 81)) - (isBelow ? 1 : 0));
            for (int places = 1; places < 80; places++) {
                written(0, places, all.substring(0, all.length() - 80 + places));
            }
            written(0, 0, all.substring(0, all.length() - 81));
        }
    }
}
