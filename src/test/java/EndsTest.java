import java.math.BigInteger;
import java.util.ArrayList;
import java.util.List;
import java.util.Random;

/** LOW and HIGH themselves, digit for digit, against roots of BigIntegers. */
public final class EndsTest {
    private static final int TERMS = 30_000, SUMS = 3_000;
    private static final long MOST = 1_000_000_000L;
    private static final long[] EDGES = {1, 2, 3, 5, 6, 10, 65535, 65537, 999999937, 999999999, 999999998, MOST,
        (1 << 29) - 1, 1 << 29};

    private final Random random = new Random(7);
    private final Check check = new Check();
    private final SurdDesk.EndsFinder finder = new SurdDesk.EndsFinder();

    public static void main(String[] args) {
        EndsTest test = new EndsTest();
        test.edges();
        for (int k = 0; k < TERMS; k++) {
            test.look(List.of(test.term()));
        }
        for (int k = 0; k < SUMS; k++) {
            test.look(test.sum());
        }
        test.greatest();
        test.carries();
        test.check.end("EndsTest");
    }

    static BigInteger value(int[] end) {
        BigInteger found = BigInteger.ZERO;
        for (int k = end.length - 1; k >= 0; k--) {
            found = found.shiftLeft(16).add(BigInteger.valueOf(end[k]));
        }
        return found;
    }

    static boolean isSquareFree(long r) {
        for (long p = 2; p * p <= r; p++) {
            if (r % (p * p) == 0) {
                return false;
            }
        }
        return true;
    }

    private static Model.Term of(long n, long d, long r) {
        return Model.Term.of(BigInteger.valueOf(n), BigInteger.valueOf(d), BigInteger.valueOf(r));
    }

    private long small() {
        return 1 + (long) (random.nextDouble() * (1L << random.nextInt(30)));
    }

    private Model.Term term() {
        long r = small();
        while (!isSquareFree(r)) {
            r = small();
        }
        return of(random.nextBoolean() ? small() : -small(), random.nextBoolean() ? 1 : small(), r);
    }

    private List<Model.Term> sum() {
        List<Model.Term> found = new ArrayList<>();
        for (int k = random.nextInt(9); k > 0; k--) {
            List<Model.Term> before = new ArrayList<>(found);
            if (!Model.add(found, term())) {
                found = before;
            }
        }
        return found;
    }

    private void look(List<Model.Term> terms) {
        SurdDesk.Sum sum = new SurdDesk.Sum();
        SurdDesk.Sum zero = new SurdDesk.Sum();
        for (Model.Term t : terms) {
            SurdDesk.Sum one = new SurdDesk.Sum();
            one.become(t.n().longValueExact(), t.d().longValueExact(), t.r().longValueExact());
            SurdDesk.Sum more = new SurdDesk.Sum();
            more.becomeSum(sum, one, 1);
            sum.becomeSum(more, zero, 1);
        }
        finder.find(sum);
        BigInteger[] ends = Model.ends(terms);
        check.due("LOW of " + terms, value(sum.low).equals(ends[0]), true);
        check.due("HIGH of " + terms, value(sum.high).equals(ends[1]), true);
    }

    private void edges() {
        for (long n : EDGES) {
            for (long d : EDGES) {
                for (long r : EDGES) {
                    if (isSquareFree(r)) {
                        look(List.of(of(n, d, r)));
                        look(List.of(of(-n, d, r)));
                    }
                }
            }
        }
        look(List.of());
    }

    /** The eight greatest radicands: the size that the highest digits must still hold. */
    private void greatest() {
        List<Model.Term> above = new ArrayList<>();
        List<Model.Term> below = new ArrayList<>();
        for (long r = MOST; above.size() < 8; r--) {
            if (isSquareFree(r)) {
                above.add(0, of(MOST, 1, r));
                below.add(0, of(-MOST, 1, r));
            }
        }
        look(above);
        look(below);
    }

    /** No number that fits has ENDS so near to 0, but a carry must reach the sign. */
    private void carries() {
        int[] end = new int[SurdDesk.Wide.LENGTH];
        SurdDesk.Wide.addSmall(end, -3);
        check.due("0 - 3", value(end).equals(BigInteger.valueOf(-3)), true);
        SurdDesk.Wide.addSmall(end, 8);
        check.due("-3 + 8", value(end).equals(BigInteger.valueOf(5)), true);
    }
}
