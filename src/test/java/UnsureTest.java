import java.math.BigInteger;
import java.util.Random;

/**
 * What is answered where ENDS do not tell. Hardly a number that fits has such ENDS (but for
 * partial), so ENDS are planted in a register, and in the model's.
 */
public final class UnsureTest {
    private static final int PLANTS = 6_000;
    private static final BigInteger[] NEAR_ZERO = new BigInteger[60];

    private final Random random = new Random(5);
    private final Check check = new Check();
    private final SurdDesk desk = new SurdDesk();
    private final Model model = new Model();
    private int unsure;

    private UnsureTest() {
        for (int k = 0; k < 2; k++) {
            desk.load(k, 2 + k, 1);
            desk.root(k, k);
            model.load(k, 2 + k, 1);
            model.root(k, k);
        }
        desk.load(2, 5, 2);
        model.load(2, 5, 2);
    }

    public static void main(String[] args) {
        UnsureTest test = new UnsureTest();
        for (int k = 0; k < NEAR_ZERO.length; k++) {
            NEAR_ZERO[k] = BigInteger.ONE.shiftLeft(k);
        }
        test.byHand();
        for (int k = 0; k < PLANTS; k++) {
            test.plantAt(0, test.middle());
            test.plantAt(1, test.random.nextBoolean() ? test.middle() : test.model.planted[0][0]);
            test.look();
        }
        test.check.due("many of them are UNSURE", test.unsure > PLANTS, true);
        test.check.end("UnsureTest");
    }

    private void plant(int k, BigInteger low, BigInteger high) {
        Bench.plant(desk, k, low, high);
        model.planted[k] = new BigInteger[] {low, high};
    }

    private void plantAt(int k, BigInteger middle) {
        BigInteger low = middle.subtract(BigInteger.valueOf(random.nextInt(9)));
        plant(k, low, low.add(BigInteger.valueOf(1 + random.nextInt(8))));
    }

    private BigInteger middle() {
        BigInteger found;
        switch (random.nextInt(5)) {
            case 0:
                found = BigInteger.valueOf(random.nextInt(1000)).shiftLeft(1024);
                break;
            case 1:
                int places = random.nextInt(81);
                BigInteger tens = BigInteger.TEN.pow(places);
                found = new BigInteger(200, random).mod(tens.multiply(BigInteger.TEN)).shiftLeft(1024).divide(tens);
                break;
            case 2:
                found = BigInteger.ONE.shiftLeft(random.nextInt(1070));
                break;
            case 3:
                found = NEAR_ZERO[random.nextInt(NEAR_ZERO.length)];
                break;
            default:
                found = new BigInteger(55, random).setBit(54).shiftLeft(random.nextInt(1010));
        }
        return random.nextBoolean() ? found : found.negate();
    }

    private void due(String call, long got, long want) {
        BigInteger[] ends = model.planted[0];
        check.due(call + " between " + ends[0] + " and " + ends[1], got, want);
        if (want == Model.UNSURE || want == Model.UNTOLD || want == 9221120237041090560L) {
            unsure++;
        }
    }

    private void look() {
        due("compare", desk.compare(0, 1), model.compare(0, 1));
        due("compare", desk.compare(1, 0), model.compare(1, 0));
        due("compare", desk.compare(0, 2), model.compare(0, 2));
        due("compare", desk.compare(0, 7), model.compare(0, 7));
        due("floor", desk.floor(0), model.floor(0));
        due("nearest", desk.nearest(0), model.nearest(0));
        due("between", desk.between(0, 2), model.between(0, 2));
        due("between", desk.between(2, 0), model.between(2, 0));
        due("between", desk.between(0, 0), model.between(0, 0));
        for (int n = 0; n < 6; n++) {
            due("partial " + n, desk.partial(0, n), model.partial(0, n));
        }
        int places = random.nextInt(81);
        due("write " + places, desk.write(0, places), model.write(0, places));
        for (int k = -1; k <= model.out.length(); k++) {
            check.due("octet", desk.octet(k), model.octet(k));
        }
    }

    /** A few whose answers are plain without a model. */
    private void byHand() {
        BigInteger one = BigInteger.ONE;
        BigInteger scale = one.shiftLeft(1024);
        plant(0, one.negate(), one);
        due("compare with 0", desk.compare(0, 7), -4);
        due("floor at 0", desk.floor(0), (1L << 62) + 2);
        due("nearest at 0", desk.nearest(0), 0x7FF8000000000000L);
        due("partial at 0", desk.partial(0, 0), (1L << 62) + 2);
        desk.write(2, 1);
        model.write(2, 1);
        due("write at 0", desk.write(0, 0), -4);
        due("OUT stays", desk.octet(-1), 3);
        plant(0, BigInteger.ZERO, one);
        due("LOW is 0: floor", desk.floor(0), 0);
        due("LOW is 0: write", desk.write(0, 0), -4);
        due("LOW is 0: nearest", desk.nearest(0), 0x7FF8000000000000L);
        due("LOW is 0: compare", desk.compare(0, 7), -4);
        due("LOW has ended", desk.partial(0, 1), (1L << 62) + 2);
        plant(0, one.negate(), BigInteger.ZERO);
        due("HIGH is 0: write", desk.write(0, 0), -4);
        plant(0, one, one.add(one));
        due("above 0", desk.compare(0, 7), 1);
        due("write", desk.write(0, 80), 82);
        model.write(0, 80);
        due("too few bits", desk.nearest(0), 0x7FF8000000000000L);
        plant(0, one.shiftLeft(53), one.shiftLeft(53));
        due("54 bits are enough", desk.nearest(0), (long) (1023 + 53 - 1024) << 52);
        plant(0, scale.subtract(one), scale.add(one));
        due("compare with 5/2", desk.compare(0, 2), -1);
        due("floor at 1", desk.floor(0), (1L << 62) + 2);
        due("between at 1", desk.between(7, 0), (1L << 62) + 2);
        due("write at 1", desk.write(0, 10), -4);
        plant(0, scale, scale.add(one));
        due("both ENDS have it", desk.write(0, 10), 12);
        model.write(0, 10);
    }
}
