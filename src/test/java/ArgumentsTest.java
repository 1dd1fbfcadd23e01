/**
 * Every call with every mix of the edges of its arguments, on desks in several states: no call
 * throws, and every answer and every number is the model's.
 */
public final class ArgumentsTest {
    private static final int[] REGISTERS = {0, 1, 2, 3, 4, 5, 6, 7, -1, 8, 9, -8, 64, 256, Integer.MIN_VALUE, Integer.MAX_VALUE};
    private static final int[] OPS = {0, 1, 2, -1, 3, 256, Integer.MIN_VALUE, Integer.MAX_VALUE};
    private static final int[] PLACES = {0, 1, 2, 9, 40, 79, 80, -1, 81, 82, 127, 128, 256, Integer.MIN_VALUE, Integer.MAX_VALUE};
    private static final int[] STEPS = {0, 1, 2, 3, 17, 18, 23, 24, -1, 25, 26, 256, Integer.MIN_VALUE, Integer.MAX_VALUE};
    private static final long[] VALUES = {0, 1, -1, 2, 7, 999_999_999, 1_000_000_000, 1_000_000_001, -999_999_999, -1_000_000_000,
        -1_000_000_001, 2_000_000_000, -3_000_000_000L, 1L << 31, 1L << 32, -(1L << 32), 1L << 34, 1L << 62, Long.MAX_VALUE,
        -Long.MAX_VALUE, Long.MIN_VALUE};
    private static final int STATES = 4;

    private final Check check = new Check();
    private SurdDesk desk;
    private Model model;
    private int state;

    public static void main(String[] args) {
        ArgumentsTest test = new ArgumentsTest();
        for (test.state = 0; test.state < STATES; test.state++) {
            test.prepare();
            test.loads();
            test.roots();
            test.reckons();
            test.divides();
            test.tellsOne();
            test.tellsTwo();
            test.tellsTerms();
        }
        test.check.end("ArgumentsTest");
    }

    private void prepare() {
        desk = new SurdDesk();
        model = new Model();
        if (state == 1) {
            fractions();
        } else if (state == 2) {
            multiples(new long[] {1, -1, 225_058_681, -543_339_720, 1_000_000_000, -1_000_000_000, 1, 1},
                new long[] {1, 1, 1, 1, 1, 1, 1_000_000_000, 3}, new long[] {2, 3, 2, 2, 99_999_989, 10, 2, 99_999_990});
        } else if (state == 3) {
            sums();
        }
        desk.write(1, 5);
        model.write(1, 5);
    }

    private void load(int k, long n, long d) {
        check.due("load", desk.load(k, n, d), model.load(k, n, d));
    }

    private void reckon(int op, int k, int i, int j) {
        check.due("reckon", desk.reckon(op, k, i, j), model.reckon(op, k, i, j));
    }

    private void fractions() {
        long[][] chosen = {{1, 1}, {-5, 2}, {1_000_000_000, 1}, {-1_000_000_000, 999_999_999}, {1, 1_000_000_000}, {0, 1}, {49, 4}, {-1, 3}};
        for (int k = 0; k < 8; k++) {
            load(k, chosen[k][0], chosen[k][1]);
        }
    }

    private void multiples(long[] tops, long[] bottoms, long[] radicands) {
        for (int k = 0; k < 8; k++) {
            load(k, radicands[k], 1);
            check.due("root", desk.root(k, k), model.root(k, k));
        }
        for (int k = 0; k < 7; k++) {
            load(7, tops[k], bottoms[k]);
            reckon(2, k, k, 7);
        }
    }

    /** Of one to eight terms, by radicands that share divisors. */
    private void sums() {
        long[] radicands = {1, 2, 3, 6, 5, 10, 15, 30};
        for (int k = 0; k < 7; k++) {
            for (int t = 0; t <= k + 1; t++) {
                load(7, radicands[t], 1);
                check.due("root", desk.root(7, 7), model.root(7, 7));
                reckon((k + t) % 2, k, k, 7);
            }
        }
    }

    /** After a call that may have changed a register; a new desk if it has. */
    private void look(String call, long got, long want) {
        check.due("state " + state + ", " + call, got, want);
        for (int i = 0; i < 8; i++) {
            check.due("terms(" + i + ") after " + call, desk.terms(i), model.terms(i));
            for (int t = 0; t < model.terms(i); t++) {
                for (int what = 0; what < 3; what++) {
                    check.due("term(" + i + ") after " + call, desk.term(i, t, what), model.term(i, t, what));
                }
            }
        }
        if (want >= 0) {
            prepare();
        }
    }

    private void loads() {
        for (int k : REGISTERS) {
            for (long n : VALUES) {
                for (long d : VALUES) {
                    look("load(" + k + ", " + n + ", " + d + ")", desk.load(k, n, d), model.load(k, n, d));
                }
            }
        }
    }

    private void roots() {
        for (int k : REGISTERS) {
            for (int i : REGISTERS) {
                look("root(" + k + ", " + i + ")", desk.root(k, i), model.root(k, i));
            }
        }
    }

    private void reckons() {
        for (int op : OPS) {
            for (int k : REGISTERS) {
                for (int i : REGISTERS) {
                    for (int j : REGISTERS) {
                        String call = "reckon(" + op + ", " + k + ", " + i + ", " + j + ")";
                        look(call, desk.reckon(op, k, i, j), model.reckon(op, k, i, j));
                    }
                }
            }
        }
    }

    private void divides() {
        for (int k : REGISTERS) {
            for (int i : REGISTERS) {
                for (int j : REGISTERS) {
                    look("divide(" + k + ", " + i + ", " + j + ")", desk.divide(k, i, j), model.divide(k, i, j));
                }
            }
        }
    }

    private void tellsOne() {
        for (int i : REGISTERS) {
            check.due("floor(" + i + ")", desk.floor(i), model.floor(i));
            check.due("nearest(" + i + ")", desk.nearest(i), model.nearest(i));
            check.due("terms(" + i + ")", desk.terms(i), model.terms(i));
            for (int n : STEPS) {
                check.due("partial(" + i + ", " + n + ")", desk.partial(i, n), model.partial(i, n));
            }
            for (int places : PLACES) {
                check.due("write(" + i + ", " + places + ")", desk.write(i, places), model.write(i, places));
                for (int k : PLACES) {
                    check.due("octet(" + k + ")", desk.octet(k), model.octet(k));
                }
            }
        }
    }

    private void tellsTwo() {
        for (int i : REGISTERS) {
            for (int j : REGISTERS) {
                check.due("compare(" + i + ", " + j + ")", desk.compare(i, j), model.compare(i, j));
                check.due("between(" + i + ", " + j + ")", desk.between(i, j), model.between(i, j));
                check.due("same(" + i + ", " + j + ")", desk.same(i, j), model.same(i, j));
            }
        }
    }

    private void tellsTerms() {
        for (int i : REGISTERS) {
            for (int k : REGISTERS) {
                for (int what : OPS) {
                    check.due("term(" + i + ", " + k + ", " + what + ")", desk.term(i, k, what), model.term(i, k, what));
                }
            }
        }
    }
}
