import java.lang.reflect.Field;
import java.math.BigInteger;
import java.util.function.LongSupplier;

/** A desk to test on, and what tests ask of it again and again. */
class Bench {
    static final long TWO_62 = 1L << 62;
    static final long UNTOLD = TWO_62 + 2;
    static final long NOT_A_NUMBER = 9221120237041090560L;
    static final long BILLION = 1_000_000_000L;
    static final int[] OTHERS = {-1, 8, 9, -8, 256, Integer.MAX_VALUE, Integer.MIN_VALUE};
    static final BigInteger ONE = BigInteger.ONE;
    static final BigInteger SCALE = ONE.shiftLeft(1024);

    final Check check = new Check();
    SurdDesk x = new SurdDesk();
    private String words = "";

    /** A sentence of the document, on a new desk; it must ask for something. */
    void sentence(String sentence, Runnable test) {
        x = new SurdDesk();
        words = sentence + " | ";
        long before = check.asked();
        test.run();
        words = "";
        check.due("answers asked for: " + sentence, check.asked() > before, true);
    }

    void due(String call, long got, long want) {
        check.due(words + call, got, want);
    }

    void due(String call, boolean got, boolean want) {
        check.due(words + call, got, want);
    }

    void due(String call, String got, String want) {
        check.due(words + call, got, want);
    }

    /** Terms as "n/d*r", by their order. */
    String number(int i) {
        StringBuilder found = new StringBuilder();
        for (int k = 0; k < x.terms(i); k++) {
            found.append(k > 0 ? " " : "");
            found.append(x.term(i, k, 0)).append('/').append(x.term(i, k, 1)).append('*').append(x.term(i, k, 2));
        }
        return found.toString();
    }

    String out() {
        StringBuilder found = new StringBuilder();
        for (int k = 0; k < x.octet(-1); k++) {
            found.append((char) x.octet(k));
        }
        return found.toString();
    }

    /** All registers, and OUT. */
    String state() {
        StringBuilder found = new StringBuilder();
        for (int i = 0; i < 8; i++) {
            found.append(i).append(": ").append(number(i)).append("; ");
        }
        return found.append("OUT: ").append(out()).toString();
    }

    void is(int i, String due) {
        due("register " + i, number(i), due);
    }

    /** The answer is as due, and nothing has changed. */
    void stays(String call, LongSupplier answer, long want) {
        String before = state();
        due(call, answer.getAsLong(), want);
        due("what is held after " + call, state(), before);
    }

    /** The answer is as due, and nothing but register k has changed. */
    void changesAlone(int k, String call, LongSupplier answer, long want) {
        String[] before = new String[8];
        for (int i = 0; i < 8; i++) {
            before[i] = number(i);
        }
        String outBefore = out();
        due(call, answer.getAsLong(), want);
        for (int i = 0; i < 8; i++) {
            if (i != k) {
                is(i, before[i]);
            }
        }
        due("OUT after " + call, out(), outBefore);
    }

    void written(int i, int places, String due) {
        due("write " + due, x.write(i, places), due.length());
        due("OUT", out(), due);
    }

    void load(int k, long n, long d) {
        due("load", x.load(k, n, d), 0);
    }

    void loadRoot(int k, long n, long d) {
        load(k, n, d);
        due("root", x.root(k, k), 0);
    }

    /** Register k becomes n / d times the root of r, by way of register 7. */
    void one(int k, long n, long d, long r) {
        loadRoot(7, r, 1);
        load(k, n, d);
        due("one term", x.reckon(2, k, k, 7), 1);
        load(7, 0, 1);
    }

    /** Adds n / d times the root of r to register k, by way of registers 6 and 7. */
    void plus(int k, long n, long d, long r) {
        one(6, n, d, r);
        due("terms after an addition", x.reckon(0, k, k, 6) > 0, true);
        load(6, 0, 1);
    }

    /** Gives register k, which must be no fraction, other ENDS than its own. */
    void plant(int k, BigInteger low, BigInteger high) {
        plant(x, k, low, high);
    }

    static void plant(SurdDesk desk, int k, BigInteger low, BigInteger high) {
        SurdDesk.Sum sum = registersOf(desk)[k];
        spread(low, sum.low);
        spread(high, sum.high);
        sum.endsAreKnown = true;
    }

    /** LOW or HIGH of register k as it has been found last. */
    BigInteger endOf(int k, boolean isHigh) {
        SurdDesk.Sum sum = registersOf(x)[k];
        return EndsTest.value(isHigh ? sum.high : sum.low);
    }

    private static SurdDesk.Sum[] registersOf(SurdDesk desk) {
        try {
            Field field = SurdDesk.class.getDeclaredField("registers");
            field.setAccessible(true);
            return (SurdDesk.Sum[]) field.get(desk);
        } catch (ReflectiveOperationException e) {
            throw new IllegalStateException(e);
        }
    }

    private static void spread(BigInteger value, int[] row) {
        for (int k = 0; k < row.length; k++) {
            int digit = value.shiftRight(16 * k).intValue();
            row[k] = k == row.length - 1 ? digit : digit & 0xFFFF;
        }
    }
}
