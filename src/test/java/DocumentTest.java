import java.math.BigInteger;
import java.util.Random;
import java.util.function.LongSupplier;

/**
 * Sentences of the document that hold for every number, each looked at on many: what a TERM and a
 * NUMBER are, that they are kept as they are, and how what different calls tell goes together.
 */
public final class DocumentTest extends Bench {
    private static final int RUNS = 60, CALLS = 512, SUMS = 3_000;
    private static final long MOST_UNDER_ROOT = 100_000_000L;
    private static final int MOST_SIDE = 10_000;

    private final Random random = new Random(41);

    public static void main(String[] args) {
        DocumentTest t = new DocumentTest();
        for (int run = 0; run < RUNS; run++) {
            t.sentence("a TERM, a NUMBER", t::numbersAreInForm);
        }
        t.sentence("kept as they are: what tells changes no number", t::tellingChangesNothing);
        t.sentence("write changes OUT alone", t::writeChangesOut);
        t.sentence("root: its greatest square that divides it", t::greatestSquares);
        t.sentence("what is added can be taken, what is multiplied divided", t::undone);
        t.sentence("as such sums numbers are the same only if their terms are", t::sameInTwoWays);
        t.sentence("compare: less, the same, greater", t::comparesAsDifferences);
        t.sentence("between: from register i on (it, too) up to below register j", t::betweenIsByFloors);
        t.sentence("partial: what is left, turned upside down, goes on so", t::partialsGoOn);
        t.sentence("OUT has bytes", t::bytesOfOut);
        t.check.end("DocumentTest");
    }

    private long small(int most) {
        return 1 + random.nextInt(most);
    }

    private long sign() {
        return random.nextBoolean() ? 1 : -1;
    }

    /** Register k becomes a sum of some terms, all small; registers 6 and 7 become 0. */
    private void some(int k, int terms, int most) {
        load(k, 0, 1);
        for (int t = 0; t < terms; t++) {
            one(6, sign() * small(most), small(most), small(most));
            due("it fits", x.reckon(0, k, k, 6) >= 0, true);
        }
        load(6, 0, 1);
    }

    private void numbersAreInForm() {
        for (int call = 0; call < CALLS; call++) {
            int k = random.nextInt(8), i = random.nextInt(8), j = random.nextInt(8);
            int kind = random.nextInt(6);
            if (kind == 0) {
                x.load(k, random.nextLong() >> random.nextInt(64), random.nextLong() >> random.nextInt(64));
            } else if (kind == 1) {
                x.load(k, random.nextInt(1 << random.nextInt(28)), small(20));
                x.root(k, k);
            } else if (kind == 2) {
                x.divide(k, i, j);
            } else {
                x.reckon(random.nextInt(3), k, i, j);
            }
            isInForm(k);
        }
    }

    private void isInForm(int i) {
        due("at most 8", x.terms(i) <= 8, true);
        long before = 0;
        for (int k = 0; k < x.terms(i); k++) {
            long n = x.term(i, k, 0), d = x.term(i, k, 1), r = x.term(i, k, 2);
            due("n", n != 0 && Math.abs(n) <= BILLION, true);
            due("d", d >= 1 && d <= BILLION, true);
            due("without a common divisor", BigInteger.valueOf(n).gcd(BigInteger.valueOf(d)).longValue(), 1);
            due("r rises", r > before && r <= BILLION, true);
            due("r has no square", EndsTest.isSquareFree(r), true);
            before = r;
        }
    }

    private void tellingChangesNothing() {
        some(0, 6, 30);
        some(1, 1, 90);
        load(2, 0, 1);
        load(3, -7, 5);
        loadRoot(4, 2, 1);
        x.write(0, 20);
        for (int i = -1; i < 9; i++) {
            int a = i;
            asked("floor", () -> x.floor(a));
            asked("nearest", () -> x.nearest(a));
            asked("terms", () -> x.terms(a));
            asked("octet", () -> x.octet(a));
            asked("refused", () -> x.write(a, 81));
            for (int j = -1; j < 9; j++) {
                int b = j;
                asked("compare", () -> x.compare(a, b));
                asked("between", () -> x.between(a, b));
                asked("same", () -> x.same(a, b) ? 1 : 0);
                asked("partial", () -> x.partial(a, 3 * b));
                asked("term", () -> x.term(a, b, b % 4));
            }
        }
    }

    /** Asked twice a call answers the same, and nothing is changed by it. */
    private void asked(String call, LongSupplier answer) {
        long first = answer.getAsLong();
        stays(call, answer, first);
    }

    private void writeChangesOut() {
        for (int k = 0; k < 6; k++) {
            some(k, k, 20);
        }
        String registers = state().replaceAll("OUT.*", "");
        for (int k = 0; k < 8; k++) {
            due("bytes", x.write(k, 8 * k), x.octet(-1));
            due("registers", state().replaceAll("OUT.*", ""), registers);
        }
    }

    /** All s with the least and the greatest r there is, and all of the least n d. */
    private void greatestSquares() {
        for (int m = 1; m <= 2_000; m++) {
            long side = 1;
            for (long s = 2; s * s <= m; s++) {
                side = m % (s * s) == 0 ? s : side;
            }
            rootIs(m, side, m / (side * side));
        }
        for (long s = 1; s <= MOST_SIDE; s++) {
            rootIs(s * s, s, 1);
            long r = MOST_UNDER_ROOT / (s * s);
            while (!EndsTest.isSquareFree(r)) {
                r--;
            }
            rootIs(s * s * r, s, r);
        }
    }

    private void rootIs(long m, long side, long r) {
        due("load", x.load(0, m, 1), 0);
        due("root", x.root(1, 0), 0);
        due("root of " + m, x.term(1, 0, 0) == side && x.term(1, 0, 1) == 1 && x.term(1, 0, 2) == r && x.terms(1) == 1, true);
    }

    private void isBack(String way, int got) {
        due(way + " fits", got >= 0, true);
        due(way, x.same(0, 3), true);
    }

    private void undone() {
        for (int turn = 0; turn < SUMS; turn++) {
            some(0, 1 + turn % 4, 12);
            some(1, 1 + turn % 3, 12);
            one(2, sign() * small(50), small(50), small(50));
            due("sum", x.reckon(0, 3, 0, 1) >= 0, true);
            isBack("i + j - j", x.reckon(1, 3, 3, 1));
            due("difference", x.reckon(1, 3, 0, 1) >= 0, true);
            isBack("i - j + j", x.reckon(0, 3, 3, 1));
            due("product", x.reckon(2, 3, 0, 2) >= 0, true);
            isBack("i times j by j", x.divide(3, 3, 2));
            due("quotient", x.divide(3, 0, 2) >= 0, true);
            isBack("i by j times j", x.reckon(2, 3, 3, 2));
        }
    }

    private void sameInTwoWays() {
        for (int turn = 0; turn < SUMS; turn++) {
            some(0, 2, 9);
            some(1, 2, 9);
            some(2, 1, 9);
            due("j + i", x.reckon(0, 3, 0, 1), x.reckon(0, 4, 1, 0));
            due("i + j is j + i", x.same(3, 4), true);
            due("j times i", x.reckon(2, 4, 0, 1), x.reckon(2, 5, 1, 0));
            due("i times j is j times i", x.same(4, 5), true);
            x.reckon(2, 3, 3, 2);
            x.reckon(2, 4, 0, 2);
            x.reckon(2, 5, 1, 2);
            x.reckon(0, 4, 4, 5);
            due("(i + j) times k is i times k + j times k", x.same(3, 4), true);
            due("they compare as the same", x.compare(3, 4), 0);
            due("1 more", x.load(5, 1, 1), 0);
            x.reckon(0, 4, 4, 5);
            due("is not the same", x.same(3, 4), false);
            due("and is greater", x.compare(4, 3), 1);
        }
    }

    private void comparesAsDifferences() {
        for (int turn = 0; turn < SUMS; turn++) {
            some(0, turn % 4, 40);
            some(1, turn % 3, 40);
            due("difference", x.reckon(1, 2, 0, 1) >= 0, true);
            int order = x.compare(0, 1);
            due("the other way round", x.compare(1, 0), -order);
            due("difference and 0", x.compare(2, 7), order);
            due("same", x.same(0, 1), order == 0);
            due("sign of the nearest", Math.signum(Double.longBitsToDouble(x.nearest(2))) == order, true);
            due("floor of the difference", x.floor(2) < 0, order < 0);
        }
    }

    /** The first whole number from x on is less the floor of less x. */
    private void betweenIsByFloors() {
        for (int turn = 0; turn < SUMS; turn++) {
            some(0, turn % 3, 40);
            some(1, turn % 4, 40);
            x.reckon(1, 2, 7, 0);
            x.reckon(1, 3, 7, 1);
            long due = Math.max(0, x.floor(2) - x.floor(3));
            due("between", x.between(0, 1), due);
            due("between itself", x.between(0, 0), 0);
        }
    }

    /** The next ones of a root are those of 1 / (it - its floor). */
    private void partialsGoOn() {
        for (int turn = 0; turn < SUMS; turn++) {
            long m = 2 + random.nextInt(3_000);
            loadRoot(0, m, 1);
            long whole = x.floor(0);
            if (whole * whole == m) {
                due("it has ended", x.partial(0, 1), TWO_62);
                continue;
            }
            // 1 / (root of m - a) is (root of m + a) / (m - a a).
            load(1, whole, 1);
            x.reckon(0, 1, 0, 1);
            load(2, m - whole * whole, 1);
            due("upside down", x.divide(1, 1, 2), 2);
            for (int n = 0; n < 24; n += 1 + random.nextInt(5)) {
                due("partial " + n, x.partial(1, n), x.partial(0, n + 1));
            }
        }
    }

    private void bytesOfOut() {
        for (int turn = 0; turn < 200; turn++) {
            some(0, turn % 5, 90);
            int places = random.nextInt(81);
            int bytes = x.write(0, places);
            due("how many", x.octet(-1), bytes);
            due("their form", out().matches(places == 0 ? "-?(0|[1-9][0-9]*)" : "-?(0|[1-9][0-9]*)\\.[0-9]{" + places + "}"), true);
            due("none behind", x.octet(bytes), SurdDesk.NONE);
        }
    }
}
