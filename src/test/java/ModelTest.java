import java.util.ArrayList;
import java.util.List;
import java.util.Random;

/** Runs of calls by a fixed seed, on the program and on the model: every answer must be the same. */
public final class ModelTest {
    private static final int RUNS = 700, CALLS = 512;
    private static final long[] CHOSEN = {0, 1, -1, 2, 3, 5, 6, 7, 8, 10, 12, 50, 72, 97, 1000, 9999, 10000, 10007,
        65535, 65536, 99999989, 100000000, 100000001, 999999937, 999999999, 1000000000, 1000000001,
        Long.MAX_VALUE, Long.MIN_VALUE, Long.MIN_VALUE + 1, 1L << 31, 1L << 32, 3000000000L};
    // With these m m - 2 n n is 1 or -1: n times the root of 2 nearly is a whole number.
    private static final long[] PELL = {5, 7, 12, 17, 29, 41, 169, 239, 5741, 8119, 195025, 275807, 6625109, 9369319,
        225058681, 318281039, 543339720, 768398401};

    private static final long[] SMALL_PRIMES = {2, 3, 5, 7, 11, 13, 17, 19};

    private final Random random;
    private final Check check;
    private final List<String> calls = new ArrayList<>();
    private SurdDesk desk = new SurdDesk();
    private Model model = new Model();

    private ModelTest(long seed, Check check) {
        this.random = new Random(seed);
        this.check = check;
    }

    public static void main(String[] args) {
        Check check = new Check();
        for (int run = 0; run < RUNS && !check.isWrong(); run++) {
            ModelTest test = new ModelTest(run, check);
            test.prepare(run % 4);
            for (int call = 0; call < CALLS && !check.isWrong(); call++) {
                test.step();
            }
            if (check.isWrong()) {
                System.out.println("run " + run + ":");
                test.calls.forEach(System.out::println);
            }
        }
        check.end("ModelTest");
    }

    /** Numbers that runs alone would seldom meet. */
    private void prepare(int kind) {
        if (kind == 1) {
            for (int k = 0; k < 4; k++) {
                multiple(k, PELL[random.nextInt(PELL.length)], 1, 2);
            }
        } else if (kind == 2) {
            for (int k = 0; k < 8; k++) {
                multiple(1, random.nextInt(2000) - 1000, 1 + random.nextInt(9), SMALL_PRIMES[k]);
                reckon(random.nextInt(2), 0, 0, 1);
            }
        } else if (kind == 3) {
            nearZero();
        }
    }

    private void multiple(int k, long n, long d, long r) {
        load(7, r, 1);
        tell("root(7, 7)", desk.root(7, 7), model.root(7, 7));
        load(k, n, d);
        reckon(2, k, k, 7);
    }

    /** (577 - 408 root 2) (362 - 209 root 3) (2889 - 1292 root 5), of eight terms, and parts of it. */
    private void nearZero() {
        long[][] factors = {{577, 408, 2}, {362, 209, 3}, {2889, 1292, 5}};
        load(0, 1, 1);
        for (long[] f : factors) {
            multiple(1, f[1], 1, f[2]);
            load(2, f[0], 1);
            reckon(1, 2, 2, 1);
            reckon(2, 0, 0, 2);
        }
        load(1, 1, 999_999_000L + random.nextInt(1000));
        reckon(2, 1, 0, 1);
    }

    private int register() {
        return random.nextInt(60) == 0 ? random.nextInt(12) - 2 : random.nextInt(8);
    }

    private long value() {
        switch (random.nextInt(7)) {
            case 0:
                return CHOSEN[random.nextInt(CHOSEN.length)];
            case 1:
                return PELL[random.nextInt(PELL.length)];
            case 2:
                return random.nextInt(2_000_000_001) - 1_000_000_000L;
            case 3:
                return random.nextLong() >> random.nextInt(64);
            default:
                return random.nextInt(60);
        }
    }

    private long divisor() {
        return random.nextInt(3) == 0 ? value() : random.nextInt(3) == 0 ? 1 + random.nextInt(20) : 1;
    }

    private void tell(String call, long got, long want) {
        calls.add(call + " -> " + got);
        check.due(call, got, want);
    }

    private void step() {
        int kind = random.nextInt(100);
        if (kind < 12) {
            load(register(), value(), divisor());
        } else if (kind < 28) {
            loadRoot();
        } else if (kind < 48) {
            reckon();
        } else if (kind < 53) {
            int k = register(), i = register(), j = register();
            tell("divide(" + k + ", " + i + ", " + j + ")", desk.divide(k, i, j), model.divide(k, i, j));
        } else {
            look(kind, register(), register());
        }
        lookAtTerms(random.nextInt(8));
    }

    private void load(int k, long n, long d) {
        tell("load(" + k + ", " + n + ", " + d + ")", desk.load(k, n, d), model.load(k, n, d));
    }

    private void loadRoot() {
        int k = register();
        if (random.nextInt(4) != 0) {
            load(k, 1 + random.nextInt(random.nextBoolean() ? 30 : 1 << 1 + random.nextInt(26)), divisor());
        }
        int i = random.nextInt(10) == 0 ? register() : k;
        tell("root(" + k + ", " + i + ")", desk.root(k, i), model.root(k, i));
    }

    private void reckon() {
        int op = random.nextInt(40) == 0 ? random.nextInt(7) - 2 : random.nextInt(3);
        reckon(op, register(), register(), register());
    }

    private void reckon(int op, int k, int i, int j) {
        tell("reckon(" + op + ", " + k + ", " + i + ", " + j + ")", desk.reckon(op, k, i, j), model.reckon(op, k, i, j));
    }

    private void look(int kind, int i, int j) {
        if (kind < 60) {
            tell("compare(" + i + ", " + j + ")", desk.compare(i, j), model.compare(i, j));
        } else if (kind < 66) {
            tell("floor(" + i + ")", desk.floor(i), model.floor(i));
        } else if (kind < 74) {
            int places = random.nextInt(10) == 0 ? random.nextInt(90) - 5 : random.nextInt(81);
            tell("write(" + i + ", " + places + ")", desk.write(i, places), model.write(i, places));
            lookAtOut();
        } else if (kind < 86) {
            int n = random.nextInt(10) == 0 ? random.nextInt(30) - 3 : random.nextInt(25);
            tell("partial(" + i + ", " + n + ")", desk.partial(i, n), model.partial(i, n));
        } else if (kind < 92) {
            tell("nearest(" + i + ")", desk.nearest(i), model.nearest(i));
        } else if (kind < 96) {
            tell("between(" + i + ", " + j + ")", desk.between(i, j), model.between(i, j));
        } else {
            check.due("same(" + i + ", " + j + ")", desk.same(i, j), model.same(i, j));
        }
    }

    private void lookAtOut() {
        for (int k = -3; k < 100; k++) {
            check.due("octet(" + k + ")", desk.octet(k), model.octet(k));
        }
    }

    private void lookAtTerms(int i) {
        check.due("terms(" + i + ")", desk.terms(i), model.terms(i));
        for (int k = -1; k < 9; k++) {
            for (int what = -1; what < 4; what++) {
                check.due("term(" + i + ", " + k + ", " + what + ")", desk.term(i, k, what), model.term(i, k, what));
            }
        }
    }
}
