import java.util.Arrays;

/** Sums of fractions times square roots, kept exactly and told without a wrong digit. */
public final class SurdDesk {
    public static final int REFUSED = -1, NONE = -2, FULL = -3, UNSURE = -4;

    private static final int REGISTERS = 8;
    private static final int ADDED = 0, TAKEN = 1, MULTIPLIED = 2;
    private static final int MOST_PLACES = 80;
    private static final int LAST_PARTIAL = 24;
    private static final long MOST_UNDER_ROOT = 100_000_000L;
    private static final long NO_REGISTER = 1L << 62;
    private static final long HAS_ENDED = 1L << 62;
    private static final long NO_PARTIAL = (1L << 62) + 1;
    private static final long NOT_TOLD = (1L << 62) + 2;
    private static final long NO_DOUBLE = 1L;
    private static final long NOT_A_NUMBER = 9221120237041090560L;

    private final Sum[] registers = new Sum[REGISTERS];
    private final Sum inverse = new Sum();
    private final EndsFinder ends = new EndsFinder();
    private final Chain lowChain = new Chain();
    private final Chain highChain = new Chain();
    private final Page page = new Page();
    private final int[] lowSize = new int[Wide.LENGTH];
    private final int[] highSize = new int[Wide.LENGTH];
    // A result grows here, so that a register stays as it was if it turns out FULL.
    private Sum draft = new Sum();

    public SurdDesk() {
        for (int k = 0; k < REGISTERS; k++) {
            registers[k] = new Sum();
        }
    }

    public int load(int k, long n, long d) {
        if (!isRegister(k) || d == 0) {
            return REFUSED;
        }
        // Below 0 every size is a long, also that of the least one.
        long divisor = -Whole.commonDivisor(n, d);
        long top = Whole.belowZero(n) / divisor;
        long bottom = Whole.belowZero(d) / divisor;
        if (Whole.isTooGreat(top) || Whole.isTooGreat(bottom)) {
            return FULL;
        }
        registers[k].become((n < 0) == (d < 0) ? top : -top, bottom, 1);
        return 0;
    }

    public int root(int k, int i) {
        if (!isRegister(k) || !isRegister(i)) {
            return REFUSED;
        }
        Sum from = registers[i];
        if (!from.isFraction() || from.top() < 0) {
            return NONE;
        }
        long bottom = from.bottom();
        long under = from.top() * bottom;
        if (under > MOST_UNDER_ROOT) {
            return FULL;
        }
        long side = Whole.sideOfGreatestSquare(under);
        long divisor = Whole.commonDivisor(side, bottom);
        registers[k].become(under == 0 ? 0 : side / divisor, bottom / divisor, under / (side * side));
        return 0;
    }

    public int reckon(int op, int k, int i, int j) {
        if (op < ADDED || op > MULTIPLIED || !isRegister(k) || !isRegister(i) || !isRegister(j)) {
            return REFUSED;
        }
        boolean fits;
        if (op == MULTIPLIED) {
            fits = draft.becomeProducts(registers[i], registers[j]);
        } else {
            fits = draft.becomeSum(registers[i], registers[j], op == TAKEN ? -1 : 1);
        }
        return fits ? keepDraft(k) : FULL;
    }

    public int divide(int k, int i, int j) {
        if (!isRegister(k) || !isRegister(i) || !isRegister(j)) {
            return REFUSED;
        }
        if (registers[j].count() != 1) {
            return NONE;
        }
        boolean fits = inverse.becomeInverse(registers[j]) && draft.becomeProducts(registers[i], inverse);
        return fits ? keepDraft(k) : FULL;
    }

    public int compare(int i, int j) {
        if (!isRegister(i) || !isRegister(j)) {
            return NONE;
        }
        if (registers[i].isSameAs(registers[j])) {
            return 0;
        }
        ends.find(registers[i]);
        ends.find(registers[j]);
        return Teller.order(registers[i], registers[j]);
    }

    public long floor(int i) {
        if (!isRegister(i)) {
            return NO_REGISTER;
        }
        Sum sum = registers[i];
        if (sum.isFraction()) {
            return Math.floorDiv(sum.top(), sum.bottom());
        }
        ends.find(sum);
        return Teller.haveSameWhole(sum.low, sum.high) ? Wide.whole(sum.low) : NOT_TOLD;
    }

    public int write(int i, int places) {
        if (!isRegister(i) || places < 0 || places > MOST_PLACES) {
            return REFUSED;
        }
        Sum sum = registers[i];
        if (sum.isFraction()) {
            page.draftFraction(sum.top(), sum.bottom(), places);
            return page.keep();
        }
        ends.find(sum);
        int sign = Teller.sizes(sum.low, sum.high, lowSize, highSize);
        if (sign == 0 || !page.draftEnds(sign < 0, lowSize, highSize, places)) {
            return UNSURE;
        }
        return page.keep();
    }

    public int octet(int k) {
        if (k == -1) {
            return page.length();
        }
        return k < 0 || k >= page.length() ? NONE : page.at(k);
    }

    public long partial(int i, int n) {
        if (!isRegister(i) || n < 0 || n > LAST_PARTIAL) {
            return NO_PARTIAL;
        }
        Sum sum = registers[i];
        if (sum.isFraction()) {
            return partialOfFraction(sum.top(), sum.bottom(), n);
        }
        ends.find(sum);
        return partialOfEnds(sum.low, sum.high, n);
    }

    public long nearest(int i) {
        if (!isRegister(i)) {
            return NO_DOUBLE;
        }
        Sum sum = registers[i];
        if (sum.isFraction()) {
            return Doubles.ofFraction(sum.top(), sum.bottom());
        }
        ends.find(sum);
        int sign = Teller.sizes(sum.low, sum.high, lowSize, highSize);
        if (sign == 0 || !Doubles.areNear(lowSize, highSize)) {
            return NOT_A_NUMBER;
        }
        return Doubles.ofSize(sign < 0, lowSize);
    }

    public long between(int i, int j) {
        if (!isRegister(i) || !isRegister(j)) {
            return NO_REGISTER;
        }
        long first = floor(i);
        long last = floor(j);
        if (first == NOT_TOLD || last == NOT_TOLD) {
            return NOT_TOLD;
        }
        // A number that is not whole has its next whole number above it.
        first += registers[i].isWhole() ? 0 : 1;
        last += registers[j].isWhole() ? 0 : 1;
        return Math.max(0L, last - first);
    }

    public int term(int i, int k, int what) {
        if (!isRegister(i) || k < 0 || k >= registers[i].count()) {
            return NONE;
        }
        switch (what) {
            case 0:
                return (int) registers[i].tops[k];
            case 1:
                return (int) registers[i].bottoms[k];
            case 2:
                return (int) registers[i].radicands[k];
            default:
                return NONE;
        }
    }

    public int terms(int i) {
        return isRegister(i) ? registers[i].count() : NONE;
    }

    public boolean same(int i, int j) {
        return isRegister(i) && isRegister(j) && registers[i].isSameAs(registers[j]);
    }

    private static boolean isRegister(int k) {
        return k >= 0 && k < REGISTERS;
    }

    private int keepDraft(int k) {
        Sum old = registers[k];
        registers[k] = draft;
        draft = old;
        return registers[k].count();
    }

    private static long partialOfFraction(long top, long bottom, int n) {
        long upper = top;
        long lower = bottom;
        long whole = 0;
        for (int step = 0; step <= n; step++) {
            if (lower == 0) {
                return HAS_ENDED;
            }
            whole = Math.floorDiv(upper, lower);
            long rest = Math.floorMod(upper, lower);
            upper = lower;
            lower = rest;
        }
        return whole;
    }

    private long partialOfEnds(int[] low, int[] high, int n) {
        if (!Teller.haveSameWhole(low, high)) {
            return NOT_TOLD;
        }
        if (n == 0) {
            return Wide.whole(low);
        }
        lowChain.begin(low);
        highChain.begin(high);
        for (int step = 1; step <= n; step++) {
            if (!lowChain.goOn() || !highChain.goOn() || !lowChain.agreesWith(highChain)) {
                return NOT_TOLD;
            }
        }
        return lowChain.told();
    }

    /** Whole numbers that a long holds. */
    static final class Whole {
        private static final long MOST = 1_000_000_000L;
        // Euclid's way ends for longs within some ninety steps.
        private static final int MOST_STEPS = 200;

        private Whole() {
        }

        /** Below 0 counts as too great: so the size 2^63, which no long holds, is refused too. */
        static boolean isTooGreat(long size) {
            return size < 0 || size > MOST;
        }

        static long belowZero(long a) {
            return a > 0 ? -a : a;
        }

        /** Never 0. If it is 2^63, which no long holds, the least long stands for it. */
        static long commonDivisor(long a, long b) {
            long upper = belowZero(a);
            long lower = belowZero(b);
            for (int step = 0; step < MOST_STEPS && lower != 0; step++) {
                long rest = upper % lower;
                upper = lower;
                lower = rest;
            }
            return upper == 0 ? 1 : -upper;
        }

        /** The greatest s whose s s divides m (1 for 0), for m up to 10^8. */
        static long sideOfGreatestSquare(long m) {
            long left = m;
            long side = 1;
            for (long p = 2; p * p * p <= left; p++) {
                for (int times = 0; times < 32 && left % p == 0; times++) {
                    left /= p;
                    if (left % p == 0) {
                        left /= p;
                        side *= p;
                    }
                }
            }
            // At most two primes are left now, so a square is left only as a whole.
            long last = wholeRoot(left);
            return last > 0 && last * last == left ? side * last : side;
        }

        private static long wholeRoot(long m) {
            long found = 0;
            for (long bit = 1 << 13; bit > 0; bit /= 2) {
                if ((found + bit) * (found + bit) <= m) {
                    found += bit;
                }
            }
            return found;
        }
    }

    /** A number: its terms by rising radicand, and its ENDS once they have been asked for. */
    static final class Sum {
        private static final int MOST_TERMS = 8;

        final long[] tops = new long[MOST_TERMS];
        final long[] bottoms = new long[MOST_TERMS];
        final long[] radicands = new long[MOST_TERMS];
        final int[] low = new int[Wide.LENGTH];
        final int[] high = new int[Wide.LENGTH];
        // The ENDS are dear, and many calls may ask for those of one number.
        boolean endsAreKnown;
        private int count;

        int count() {
            return count;
        }

        boolean isFraction() {
            return count == 0 || (count == 1 && radicands[0] == 1);
        }

        /** Of a fraction. */
        long top() {
            return count == 0 ? 0 : tops[0];
        }

        /** Of a fraction. */
        long bottom() {
            return count == 0 ? 1 : bottoms[0];
        }

        boolean isWhole() {
            return isFraction() && bottom() == 1;
        }

        boolean isSameAs(Sum other) {
            if (count != other.count) {
                return false;
            }
            for (int k = 0; k < count; k++) {
                if (tops[k] != other.tops[k] || bottoms[k] != other.bottoms[k]
                        || radicands[k] != other.radicands[k]) {
                    return false;
                }
            }
            return true;
        }

        void become(long top, long bottom, long radicand) {
            clear();
            if (top != 0) {
                put(0, top, bottom, radicand);
                count = 1;
            }
        }

        /** False if it is FULL. */
        boolean becomeSum(Sum first, Sum second, int sign) {
            clear();
            for (int k = 0; k < first.count; k++) {
                put(k, first.tops[k], first.bottoms[k], first.radicands[k]);
            }
            count = first.count;
            for (int k = 0; k < second.count; k++) {
                if (!add(sign * second.tops[k], second.bottoms[k], second.radicands[k])) {
                    return false;
                }
            }
            return true;
        }

        /** False if it is FULL. */
        boolean becomeProducts(Sum first, Sum second) {
            clear();
            for (int i = 0; i < first.count; i++) {
                for (int j = 0; j < second.count; j++) {
                    if (!addProduct(first, i, second, j)) {
                        return false;
                    }
                }
            }
            return true;
        }

        /** Of a number of one term; false if it is FULL. */
        boolean becomeInverse(Sum other) {
            long top = other.tops[0];
            long bottom = other.bottoms[0];
            long radicand = other.radicands[0];
            long divisor = Whole.commonDivisor(bottom, radicand);
            long under = Math.abs(top) * (radicand / divisor);
            if (Whole.isTooGreat(under)) {
                return false;
            }
            become(top < 0 ? -(bottom / divisor) : bottom / divisor, under, radicand);
            return true;
        }

        private void clear() {
            count = 0;
            endsAreKnown = false;
        }

        private void put(int k, long top, long bottom, long radicand) {
            tops[k] = top;
            bottoms[k] = bottom;
            radicands[k] = radicand;
        }

        private boolean addProduct(Sum first, int i, Sum second, int j) {
            long a = first.tops[i];
            long b = second.tops[j];
            long c = first.bottoms[i];
            long d = second.bottoms[j];
            long g = Whole.commonDivisor(first.radicands[i], second.radicands[j]);
            long radicand = (first.radicands[i] / g) * (second.radicands[j] / g);
            // What is common goes before anything is multiplied: a b g can be beyond a long.
            long ad = Whole.commonDivisor(a, d);
            long bc = Whole.commonDivisor(b, c);
            a /= ad;
            d /= ad;
            b /= bc;
            c /= bc;
            long gc = Whole.commonDivisor(g, c);
            long gd = Whole.commonDivisor(g / gc, d);
            g = g / gc / gd;
            long bottom = (c / gc) * (d / gd);
            long top = a * b;
            if (Whole.isTooGreat(Math.abs(top)) || Whole.isTooGreat(bottom) || Whole.isTooGreat(radicand)) {
                return false;
            }
            top *= g;
            return !Whole.isTooGreat(Math.abs(top)) && add(top, bottom, radicand);
        }

        private boolean add(long top, long bottom, long radicand) {
            int at = 0;
            while (at < count && radicands[at] < radicand) {
                at++;
            }
            if (at < count && radicands[at] == radicand) {
                return addToTerm(at, top, bottom);
            }
            if (count == MOST_TERMS) {
                return false;
            }
            move(at, at + 1);
            put(at, top, bottom, radicand);
            count++;
            return true;
        }

        private boolean addToTerm(int at, long top, long bottom) {
            long newTop = tops[at] * bottom + top * bottoms[at];
            long newBottom = bottoms[at] * bottom;
            if (newTop == 0) {
                move(at + 1, at);
                count--;
                return true;
            }
            long divisor = Whole.commonDivisor(newTop, newBottom);
            newTop /= divisor;
            newBottom /= divisor;
            if (Whole.isTooGreat(Math.abs(newTop)) || Whole.isTooGreat(newBottom)) {
                return false;
            }
            put(at, newTop, newBottom, radicands[at]);
            return true;
        }

        private void move(int from, int to) {
            System.arraycopy(tops, from, tops, to, count - from);
            System.arraycopy(bottoms, from, bottoms, to, count - from);
            System.arraycopy(radicands, from, radicands, to, count - from);
        }
    }

    /**
     * Rows of digits of 16 bits, the lowest first. Digits are so small that a guess from two of
     * them is nearly right, and that no product passes a long. The highest digit of an END bears
     * the sign: it is -1 if the END is below 0, else 0.
     */
    static final class Wide {
        static final int BITS = 16;
        static final int MASK = 0xFFFF;
        /** So many digits are behind the point: 1024 bits. */
        static final int POINT = 64;
        /** The size of a number is below 2^48: three digits before the point, and the sign. */
        static final int SIGN = POINT + 3;
        static final int LENGTH = SIGN + 1;

        private Wide() {
        }

        /** The highest digit that is not 0; -1 if there is none. */
        static int topOf(int[] row) {
            int k = row.length - 1;
            while (k >= 0 && row[k] == 0) {
                k--;
            }
            return k;
        }

        /** Takes times * row[start .. end] from target, offset digits higher. */
        static void take(int[] target, int offset, int[] row, int start, int end, int times) {
            long carry = 0;
            for (int k = start; k <= end; k++) {
                carry += target[k + offset] - (long) times * row[k];
                target[k + offset] = (int) (carry & MASK);
                carry >>= BITS;
            }
            target[end + offset + 1] += (int) carry;
        }

        /** How often row goes, offset digits higher, into target: right, or too great by at most 1. */
        static int guess(int[] target, int offset, int[] row, int top) {
            int at = top + offset;
            long upper = ((long) target[at + 1] << 2 * BITS) + ((long) target[at] << BITS)
                    + (at > 0 ? target[at - 1] : 0);
            long lower = ((long) row[top] << BITS) + (top > 0 ? row[top - 1] : 0);
            long digit = lower <= 0 ? 0 : upper / lower;
            return digit > MASK ? MASK : (int) digit;
        }

        static void addSmall(int[] end, int what) {
            int carry = what;
            for (int k = 0; k < SIGN; k++) {
                carry += end[k];
                end[k] = carry & MASK;
                carry >>= BITS;
            }
            end[SIGN] += carry;
        }

        static void size(int[] end, int[] into) {
            if (end[SIGN] >= 0) {
                System.arraycopy(end, 0, into, 0, LENGTH);
                return;
            }
            Arrays.fill(into, 0);
            take(into, 0, end, 0, SIGN - 1, 1);
            into[SIGN] -= end[SIGN];
        }

        /** The greatest whole number not above end / 2^1024. */
        static long whole(int[] end) {
            long found = end[SIGN];
            for (int k = SIGN - 1; k >= POINT; k--) {
                found = (found << BITS) + end[k];
            }
            return found;
        }

        static void putLong(int[] row, int at, long what) {
            long left = what;
            for (int k = at; k < row.length && left != 0; k++) {
                row[k] = (int) (left & MASK);
                left >>>= BITS;
            }
        }

        static boolean isBelow(int[] end, int[] other) {
            for (int k = SIGN; k >= 0; k--) {
                if (end[k] != other[k]) {
                    return end[k] < other[k];
                }
            }
            return false;
        }

        /** Moves the next digit to base ten before the point of what is behind it, and tells it. */
        static int nextPlace(int[] size) {
            int carry = 0;
            for (int k = 0; k < POINT; k++) {
                carry += size[k] * 10;
                size[k] = carry & MASK;
                carry >>= BITS;
            }
            return carry;
        }

        static int bitLength(int[] size) {
            int top = topOf(size);
            int length = 0;
            for (int bit = 0; bit < BITS && top >= 0; bit++) {
                if ((size[top] >> bit & 1) == 1) {
                    length = top * BITS + bit + 1;
                }
            }
            return length;
        }

        /** Bits first - count + 1 to first, as a number. */
        static long bits(int[] size, int first, int count) {
            long found = 0;
            for (int bit = first; bit > first - count && bit >= 0; bit--) {
                found = found << 1 | (size[bit / BITS] >> bit % BITS & 1);
            }
            return found;
        }
    }

    /** Finds the ENDS of numbers. */
    static final class EndsFinder {
        private static final int HALF_PAIRS = 15;
        private static final int HIGH_PAIRS = 31;
        private static final int DIGIT_PAIRS = Wide.BITS;
        private static final int MOST_CORRECTIONS = 4;

        // What the root leaves has twice as many digits behind the point.
        private final int[] rest = new int[2 * Wide.POINT + 4];
        // Twice the root, as the longhand way asks for it.
        private final int[] twice = new int[Wide.LENGTH];
        private final int[] size = new int[Wide.LENGTH];
        private long headRoot;
        private long headRest;

        void find(Sum sum) {
            if (sum.endsAreKnown) {
                return;
            }
            Arrays.fill(sum.low, 0);
            int below = 0;
            for (int k = 0; k < sum.count(); k++) {
                findSize(Math.abs(sum.tops[k]), sum.bottoms[k], sum.radicands[k]);
                boolean isBelow = sum.tops[k] < 0;
                Wide.take(sum.low, 0, size, 0, Wide.SIGN - 1, isBelow ? 1 : -1);
                below += isBelow ? 1 : 0;
            }
            Wide.addSmall(sum.low, -below);
            // Each term has its w once in both ENDS, and w + 1 in just one of them.
            System.arraycopy(sum.low, 0, sum.high, 0, Wide.LENGTH);
            Wide.addSmall(sum.high, sum.count());
            sum.endsAreKnown = true;
        }

        /** The size of a term times 2^1024, cut off to a whole number. */
        private void findSize(long top, long bottom, long radicand) {
            Arrays.fill(twice, 0);
            if (radicand == 1) {
                Wide.putLong(twice, Wide.POINT, 2 * top);
            } else {
                findTwiceRoot(top * top, radicand);
            }
            long divisor = 2 * bottom;
            long left = 0;
            for (int k = Wide.LENGTH - 1; k >= 0 && divisor > 0; k--) {
                left = (left << Wide.BITS) + twice[k];
                size[k] = (int) (left / divisor);
                left %= divisor;
            }
        }

        /** The root of square * radicand, digit by digit; the digits under it soon are all 0. */
        private void findTwiceRoot(long square, long radicand) {
            findHead(square, radicand);
            int behind = 0;
            // With less than two digits the guesses at the next one would be far too great.
            if (headRoot <= Wide.MASK) {
                bringDown(0, DIGIT_PAIRS);
                behind = 1;
            }
            Arrays.fill(rest, 0);
            Wide.putLong(twice, Wide.POINT - behind, 2 * headRoot);
            Wide.putLong(rest, 2 * (Wide.POINT - behind), headRest);
            int top = Wide.topOf(twice);
            for (int k = Wide.POINT - behind - 1; k >= 0; k--) {
                findDigit(k, top);
            }
        }

        /** The whole part of the root, bit by bit, of up to 91 bits that no long holds. */
        private void findHead(long square, long radicand) {
            int half = 2 * HALF_PAIRS;
            long mask = (1L << half) - 1;
            long lower = (square & mask) * radicand;
            long upper = (square >> half) * radicand + (lower >> half);
            headRoot = 0;
            headRest = 0;
            bringDown(upper, HIGH_PAIRS);
            bringDown(lower & mask, HALF_PAIRS);
        }

        private void bringDown(long bits, int pairs) {
            for (int shift = 2 * pairs - 2; shift >= 0; shift -= 2) {
                headRest = 4 * headRest + (bits >> shift & 3);
                long trial = 4 * headRoot + 1;
                headRoot *= 2;
                if (headRest >= trial) {
                    headRest -= trial;
                    headRoot++;
                }
            }
        }

        /** With R so far and a digit q behind it, (2 R + q) q is taken from the rest. */
        private void findDigit(int k, int top) {
            int digit = Wide.guess(rest, k, twice, top);
            twice[k] = digit;
            Wide.take(rest, k, twice, k, top, digit);
            for (int turn = 0; turn < MOST_CORRECTIONS && rest[top + k + 1] < 0; turn++) {
                // (2 R + q) q - (2 R + q - 1) (q - 1) = 2 R + 2 q - 1
                twice[k] = 2 * digit - 1;
                Wide.take(rest, k, twice, k, top, -1);
                digit--;
            }
            twice[k] = 2 * digit & Wide.MASK;
            twice[k + 1] += 2 * digit >> Wide.BITS;
        }
    }

    /** What two ENDS tell together. */
    static final class Teller {
        private Teller() {
        }

        /** Of numbers that are not the same. */
        static int order(Sum first, Sum second) {
            if (Wide.isBelow(first.high, second.low)) {
                return -1;
            }
            return Wide.isBelow(second.high, first.low) ? 1 : UNSURE;
        }

        static boolean haveSameWhole(int[] low, int[] high) {
            return Wide.whole(low) == Wide.whole(high);
        }

        /** Finds both ENDS without their sign; tells the sign, 0 if it is not told. */
        static int sizes(int[] low, int[] high, int[] lowSize, int[] highSize) {
            Wide.size(low, lowSize);
            Wide.size(high, highSize);
            if (high[Wide.SIGN] < 0) {
                return -1;
            }
            return low[Wide.SIGN] >= 0 && Wide.topOf(low) >= 0 ? 1 : 0;
        }
    }

    /** The fraction in fractions of one END / 2^1024, behind its whole part. */
    static final class Chain {
        private static final long MOST_TOLD = (1L << 62) - 1;
        private static final int LAST_OF_LONG = 3;
        private static final int MOST_IN_LAST = 0x3FFF;

        private int[] upper = new int[Wide.POINT + 2];
        private int[] lower = new int[Wide.POINT + 2];
        private final int[] quotient = new int[Wide.POINT + 2];

        void begin(int[] end) {
            Arrays.fill(upper, 0);
            upper[Wide.POINT] = 1;
            Arrays.fill(lower, 0);
            System.arraycopy(end, 0, lower, 0, Wide.POINT);
        }

        /** Finds the next whole number; false if it has ended. */
        boolean goOn() {
            int top = Wide.topOf(lower);
            if (top < 0) {
                return false;
            }
            Arrays.fill(quotient, 0);
            for (int k = Wide.topOf(upper) - top; k >= 0; k--) {
                quotient[k] = takeAsOften(k, top);
            }
            int[] left = upper;
            upper = lower;
            lower = left;
            return true;
        }

        boolean agreesWith(Chain other) {
            for (int k = 0; k < quotient.length; k++) {
                if (quotient[k] != other.quotient[k]) {
                    return false;
                }
            }
            return true;
        }

        long told() {
            if (Wide.topOf(quotient) > LAST_OF_LONG || quotient[LAST_OF_LONG] > MOST_IN_LAST) {
                return MOST_TOLD;
            }
            long found = 0;
            for (int k = LAST_OF_LONG; k >= 0; k--) {
                found = (found << Wide.BITS) + quotient[k];
            }
            return found;
        }

        private int takeAsOften(int k, int top) {
            int digit = Wide.guess(upper, k, lower, top);
            Wide.take(upper, k, lower, 0, top, digit);
            if (upper[top + k + 1] < 0) {
                Wide.take(upper, k, lower, 0, top, -1);
                digit--;
            }
            return digit;
        }
    }

    /** The bits of doubles. */
    static final class Doubles {
        /** All bits of a double's digits, and one more that tells how to round. */
        private static final int TOLD_BITS = 54;
        private static final int STORED_BITS = 52;
        private static final int BIAS = 1023;
        private static final long SIGN_BIT = 1L << 63;
        private static final int MOST_SHIFTS = 32;

        private Doubles() {
        }

        static long ofFraction(long top, long bottom) {
            if (top == 0) {
                return 0L;
            }
            long upper = Math.abs(top);
            long lower = bottom;
            int power = 0;
            for (int shift = 0; shift < MOST_SHIFTS && upper < lower; shift++) {
                upper *= 2;
                power--;
            }
            for (int shift = 0; shift < MOST_SHIFTS && upper >= 2 * lower; shift++) {
                lower *= 2;
                power++;
            }
            long bits = 0;
            for (int bit = 0; bit < TOLD_BITS; bit++) {
                boolean goes = upper >= lower;
                bits = 2 * bits + (goes ? 1 : 0);
                upper = 2 * (goes ? upper - lower : upper);
            }
            return join(top < 0, power, bits, upper != 0);
        }

        static boolean areNear(int[] lowSize, int[] highSize) {
            int length = Wide.bitLength(lowSize);
            return length >= TOLD_BITS && length == Wide.bitLength(highSize)
                    && highest(lowSize, length) == highest(highSize, length);
        }

        /** Of a number that is no fraction: so there always is more behind the bits. */
        static long ofSize(boolean isBelow, int[] size) {
            int length = Wide.bitLength(size);
            return join(isBelow, length - 1 - Wide.POINT * Wide.BITS, highest(size, length), true);
        }

        private static long highest(int[] size, int length) {
            return Wide.bits(size, length - 1, TOLD_BITS);
        }

        /** The carry of rounding up goes on into the power by itself, as it should. */
        private static long join(boolean isBelow, int power, long bits, boolean hasMore) {
            long digits = bits >> 1;
            boolean roundsUp = (bits & 1) == 1 && (hasMore || (digits & 1) == 1);
            long found = ((long) (power + BIAS) << STORED_BITS) + digits - (1L << STORED_BITS);
            found += roundsUp ? 1 : 0;
            return isBelow ? found | SIGN_BIT : found;
        }
    }

    /** OUT, and a draft of what it becomes if all of it can be told. */
    static final class Page {
        private static final int ROOM = 128;
        private static final int MOST_BEFORE_POINT = 18;

        private byte[] kept = new byte[ROOM];
        private byte[] draft = new byte[ROOM];
        private int keptLength;
        private int draftLength;

        int length() {
            return keptLength;
        }

        int at(int k) {
            return kept[k];
        }

        int keep() {
            byte[] old = kept;
            kept = draft;
            keptLength = draftLength;
            draft = old;
            return keptLength;
        }

        void draftFraction(long top, long bottom, int places) {
            long size = Math.abs(top);
            draftWhole(top < 0, size / bottom, places);
            long left = size % bottom;
            for (int k = 0; k < places; k++) {
                left *= 10;
                put((char) ('0' + left / bottom));
                left %= bottom;
            }
        }

        /** False if the sizes have not the same digits; both are used up. */
        boolean draftEnds(boolean isBelow, int[] lowSize, int[] highSize, int places) {
            long whole = Wide.whole(lowSize);
            if (whole != Wide.whole(highSize)) {
                return false;
            }
            draftWhole(isBelow, whole, places);
            for (int k = 0; k < places; k++) {
                int digit = Wide.nextPlace(lowSize);
                if (digit != Wide.nextPlace(highSize)) {
                    return false;
                }
                put((char) ('0' + digit));
            }
            return true;
        }

        private void draftWhole(boolean isBelow, long whole, int places) {
            draftLength = 0;
            if (isBelow) {
                put('-');
            }
            long unit = 1;
            for (int k = 0; k < MOST_BEFORE_POINT && unit <= whole / 10; k++) {
                unit *= 10;
            }
            for (long left = unit; left > 0; left /= 10) {
                put((char) ('0' + whole / left % 10));
            }
            if (places > 0) {
                put('.');
            }
        }

        private void put(char what) {
            if (draftLength < ROOM) {
                draft[draftLength] = (byte) what;
                draftLength++;
            }
        }
    }
}
