import java.math.BigDecimal;
import java.math.BigInteger;
import java.util.ArrayList;
import java.util.List;

/** The document's promises over again, in BigIntegers and without a thought for speed or room. */
final class Model {
    static final int REFUSED = -1, NONE = -2, FULL = -3, UNSURE = -4;
    static final long ENDED = 1L << 62, OTHER = ENDED + 1, UNTOLD = ENDED + 2;
    static final BigInteger ONE = BigInteger.ONE, ZERO = BigInteger.ZERO;
    static final BigInteger MOST = BigInteger.valueOf(1_000_000_000L);
    static final BigInteger SCALE = ONE.shiftLeft(1024);

    record Term(BigInteger n, BigInteger d, BigInteger r) {
        static Term of(BigInteger n, BigInteger d, BigInteger r) {
            BigInteger g = n.gcd(d);
            if (d.signum() < 0) {
                g = g.negate();
            }
            return new Term(n.divide(g), d.divide(g), r);
        }

        boolean fits() {
            return n.abs().compareTo(MOST) <= 0 && d.compareTo(MOST) <= 0 && r.compareTo(MOST) <= 0;
        }

        Term times(Term o) {
            BigInteger g = r.gcd(o.r);
            return of(n.multiply(o.n).multiply(g), d.multiply(o.d), r.multiply(o.r).divide(g.multiply(g)));
        }

        BigInteger w() {
            BigInteger under = n.multiply(n).multiply(r).multiply(SCALE).multiply(SCALE);
            return under.divide(d.multiply(d)).sqrt();
        }
    }

    final List<List<Term>> registers = new ArrayList<>();
    final BigInteger[][] planted = new BigInteger[8][];
    String out = "";

    Model() {
        for (int k = 0; k < 8; k++) {
            registers.add(new ArrayList<>());
        }
    }

    private static boolean is(int k) {
        return 0 <= k && k <= 7;
    }

    private void set(int k, List<Term> number) {
        registers.set(k, number);
        planted[k] = null;
    }

    static boolean add(List<Term> to, Term t) {
        for (int k = 0; k < to.size(); k++) {
            Term old = to.get(k);
            if (old.r.equals(t.r)) {
                BigInteger n = old.n.multiply(t.d).add(t.n.multiply(old.d));
                if (n.signum() == 0) {
                    to.remove(k);
                    return true;
                }
                to.set(k, Term.of(n, old.d.multiply(t.d), t.r));
                return to.get(k).fits();
            }
        }
        to.add(t);
        to.sort((a, b) -> a.r.compareTo(b.r));
        return to.size() < 9;
    }

    static boolean isFraction(List<Term> x) {
        return x.isEmpty() || x.size() == 1 && x.get(0).r.equals(ONE);
    }

    private static BigInteger top(List<Term> fraction) {
        return fraction.isEmpty() ? ZERO : fraction.get(0).n;
    }

    private static BigInteger bottom(List<Term> fraction) {
        return fraction.isEmpty() ? ONE : fraction.get(0).d;
    }

    static BigInteger floorDiv(BigInteger a, BigInteger b) {
        BigInteger[] qr = a.divideAndRemainder(b);
        return qr[1].signum() != 0 && qr[1].signum() != b.signum() ? qr[0].subtract(ONE) : qr[0];
    }

    static BigInteger[] ends(List<Term> x) {
        BigInteger low = ZERO, high = ZERO;
        for (Term t : x) {
            BigInteger w = t.w(), v = w.add(ONE);
            low = t.n.signum() > 0 ? low.add(w) : low.subtract(v);
            high = t.n.signum() > 0 ? high.add(v) : high.subtract(w);
        }
        return new BigInteger[] {low, high};
    }

    private BigInteger[] endsOf(int i) {
        return planted[i] != null ? planted[i] : ends(registers.get(i));
    }

    int load(int k, long n, long d) {
        if (!is(k) || d == 0) {
            return REFUSED;
        }
        List<Term> x = new ArrayList<>();
        if (n != 0) {
            Term t = Term.of(BigInteger.valueOf(n), BigInteger.valueOf(d), ONE);
            if (!t.fits()) {
                return FULL;
            }
            x.add(t);
        }
        set(k, x);
        return 0;
    }

    int root(int k, int i) {
        if (!is(k) || !is(i)) {
            return REFUSED;
        }
        List<Term> x = registers.get(i);
        if (!isFraction(x) || top(x).signum() < 0) {
            return NONE;
        }
        BigInteger under = top(x).multiply(bottom(x));
        if (under.compareTo(BigInteger.valueOf(100_000_000L)) > 0) {
            return FULL;
        }
        long m = under.longValue();
        List<Term> y = new ArrayList<>();
        if (m > 0) {
            long s = under.sqrt().longValue();
            while (m % (s * s) != 0) {
                s--;
            }
            y.add(Term.of(BigInteger.valueOf(s), bottom(x), BigInteger.valueOf(m / (s * s))));
        }
        set(k, y);
        return 0;
    }

    int reckon(int op, int k, int i, int j) {
        if (op < 0 || op > 2 || !is(k) || !is(i) || !is(j)) {
            return REFUSED;
        }
        if (op == 2) {
            return multiply(k, registers.get(i), registers.get(j));
        }
        List<Term> x = new ArrayList<>(registers.get(i));
        for (Term t : registers.get(j)) {
            if (!add(x, op == 0 ? t : new Term(t.n.negate(), t.d, t.r))) {
                return FULL;
            }
        }
        set(k, x);
        return x.size();
    }

    private int multiply(int k, List<Term> a, List<Term> b) {
        List<Term> x = new ArrayList<>();
        for (Term s : a) {
            for (Term t : b) {
                Term p = s.times(t);
                if (!p.fits() || !add(x, p)) {
                    return FULL;
                }
            }
        }
        set(k, x);
        return x.size();
    }

    int divide(int k, int i, int j) {
        if (!is(k) || !is(i) || !is(j)) {
            return REFUSED;
        }
        if (registers.get(j).size() != 1) {
            return NONE;
        }
        Term t = registers.get(j).get(0);
        Term u = Term.of(t.d, t.n.multiply(t.r), t.r);
        return u.fits() ? multiply(k, registers.get(i), List.of(u)) : FULL;
    }

    int compare(int i, int j) {
        if (!is(i) || !is(j)) {
            return NONE;
        }
        if (same(i, j)) {
            return 0;
        }
        BigInteger[] a = endsOf(i), b = endsOf(j);
        return a[1].compareTo(b[0]) < 0 ? -1 : b[1].compareTo(a[0]) < 0 ? 1 : UNSURE;
    }

    long floor(int i) {
        if (!is(i)) {
            return ENDED;
        }
        List<Term> x = registers.get(i);
        if (isFraction(x)) {
            return floorDiv(top(x), bottom(x)).longValueExact();
        }
        BigInteger[] e = endsOf(i);
        BigInteger low = floorDiv(e[0], SCALE), high = floorDiv(e[1], SCALE);
        return low.equals(high) ? low.longValueExact() : UNTOLD;
    }

    private static String digits(BigInteger n, BigInteger d, int places) {
        String s = n.abs().multiply(BigInteger.TEN.pow(places)).divide(d).toString();
        while (s.length() < places + 1) {
            s = "0" + s;
        }
        int point = s.length() - places;
        return (n.signum() < 0 ? "-" : "") + s.substring(0, point) + (places > 0 ? "." + s.substring(point) : "");
    }

    int write(int i, int places) {
        if (!is(i) || places < 0 || places > 80) {
            return REFUSED;
        }
        List<Term> x = registers.get(i);
        if (isFraction(x)) {
            out = digits(top(x), bottom(x), places);
            return out.length();
        }
        BigInteger[] e = endsOf(i);
        String low = digits(e[0], SCALE, places), high = digits(e[1], SCALE, places);
        if (e[0].signum() <= 0 && e[1].signum() >= 0 || !low.equals(high)) {
            return UNSURE;
        }
        out = low;
        return out.length();
    }

    int octet(int k) {
        return k == -1 ? out.length() : k < 0 || k >= out.length() ? NONE : out.charAt(k);
    }

    /** Up to number n; shorter if it has ended before. */
    static List<BigInteger> chain(BigInteger top, BigInteger bottom, int n) {
        List<BigInteger> found = new ArrayList<>();
        while (found.size() <= n && bottom.signum() != 0) {
            BigInteger q = floorDiv(top, bottom), rest = top.subtract(q.multiply(bottom));
            found.add(q);
            top = bottom;
            bottom = rest;
        }
        return found;
    }

    long partial(int i, int n) {
        if (!is(i) || n < 0 || n > 24) {
            return OTHER;
        }
        List<Term> x = registers.get(i);
        List<BigInteger> c;
        if (isFraction(x)) {
            c = chain(top(x), bottom(x), n);
            if (c.size() <= n) {
                return ENDED;
            }
        } else {
            BigInteger[] e = endsOf(i);
            c = chain(e[0], SCALE, n);
            if (c.size() <= n || !c.equals(chain(e[1], SCALE, n))) {
                return UNTOLD;
            }
        }
        return c.get(n).min(BigInteger.valueOf(ENDED - 1)).longValueExact();
    }

    long nearest(int i) {
        if (!is(i)) {
            return 1;
        }
        List<Term> x = registers.get(i);
        if (isFraction(x)) {
            // Both are below 2^53, so the quotient is rounded once alone.
            double quotient = top(x).doubleValue() / bottom(x).doubleValue();
            return Double.doubleToRawLongBits(quotient);
        }
        BigInteger[] e = endsOf(i);
        BigInteger low = e[0].abs(), high = e[1].abs();
        int bits = low.bitLength();
        if (e[0].signum() <= 0 && e[1].signum() >= 0 || bits < 54 || bits != high.bitLength()
                || !low.shiftRight(bits - 54).equals(high.shiftRight(bits - 54))) {
            return 9221120237041090560L;
        }
        // One bit more than all that is told: the number is no fraction, so it is no tie.
        BigInteger inside = low.shiftRight(bits - 54).shiftLeft(1).add(ONE);
        BigDecimal value = new BigDecimal(e[0].signum() < 0 ? inside.negate() : inside);
        BigDecimal unit = new BigDecimal(ONE.shiftLeft(Math.abs(bits - 55 - 1024)));
        value = bits < 55 + 1024 ? value.divide(unit) : value.multiply(unit);
        return Double.doubleToRawLongBits(Double.parseDouble(value.toString()));
    }

    long between(int i, int j) {
        if (!is(i) || !is(j)) {
            return ENDED;
        }
        long a = floor(i), b = floor(j);
        if (a == UNTOLD || b == UNTOLD) {
            return UNTOLD;
        }
        long from = isWhole(i) ? a : a + 1, to = isWhole(j) ? b - 1 : b;
        return to < from ? 0 : to - from + 1;
    }

    private boolean isWhole(int i) {
        List<Term> x = registers.get(i);
        return isFraction(x) && bottom(x).equals(ONE);
    }

    int term(int i, int k, int what) {
        if (!is(i) || k < 0 || k >= registers.get(i).size() || what < 0 || what > 2) {
            return NONE;
        }
        Term t = registers.get(i).get(k);
        return (what == 0 ? t.n : what == 1 ? t.d : t.r).intValueExact();
    }

    int terms(int i) {
        return is(i) ? registers.get(i).size() : NONE;
    }

    boolean same(int i, int j) {
        return is(i) && is(j) && registers.get(i).equals(registers.get(j));
    }
}
