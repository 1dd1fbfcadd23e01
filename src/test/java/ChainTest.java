import java.math.BigInteger;
import java.util.List;
import java.util.Random;

/** Fractions in fractions of rows of digits, with such as make long division guess wrong. */
public final class ChainTest {
    private static final int ROWS = 4_000;
    private static final int[] HARD = {0, 0, 1, 0x7FFF, 0x8000, 0xFFFE, 0xFFFF, 0xFFFF};

    public static void main(String[] args) {
        Check check = new Check();
        Random random = new Random(11);
        SurdDesk.Chain chain = new SurdDesk.Chain();
        for (int k = 0; k < ROWS; k++) {
            look(check, chain, row(random));
        }
        for (int shift = 0; shift < 1024; shift++) {
            int[] row = new int[SurdDesk.Wide.LENGTH];
            row[shift / 16] = 1 << shift % 16;
            look(check, chain, row);
        }
        check.end("ChainTest");
    }

    private static int[] row(Random random) {
        int[] row = new int[SurdDesk.Wide.LENGTH];
        int kind = random.nextInt(3);
        int length = random.nextInt(SurdDesk.Wide.POINT + 1);
        for (int k = 0; k < length; k++) {
            boolean isHard = kind == 0 || kind == 1 && random.nextBoolean();
            row[k] = isHard ? HARD[random.nextInt(HARD.length)] : random.nextInt(1 << 16);
        }
        return row;
    }

    private static void look(Check check, SurdDesk.Chain chain, int[] row) {
        BigInteger value = EndsTest.value(row);
        List<BigInteger> due = Model.chain(value, Model.SCALE, 2000);
        chain.begin(row);
        for (int k = 1; k < due.size(); k++) {
            check.due("goes on", chain.goOn(), true);
            long told = due.get(k).min(BigInteger.valueOf(Model.ENDED - 1)).longValueExact();
            check.due("number " + k + " of " + value, chain.told(), told);
        }
        check.due("ends", chain.goOn(), false);
    }
}
