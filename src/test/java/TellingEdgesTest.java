import java.math.BigInteger;

/**
 * Boundary cases that promises 6 to 15 name, each sentence by a test of its own. No number that
 * fits is known to have ENDS that leave anything but partial UNSURE: so ENDS are planted.
 */
public final class TellingEdgesTest extends Bench {
    private static final BigInteger ZERO = BigInteger.ZERO, TWO = BigInteger.TWO;
    private static final BigInteger FIVE = SCALE.multiply(BigInteger.valueOf(5));

    public static void main(String[] args) {
        TellingEdgesTest t = new TellingEdgesTest();
        t.promise6();
        t.promise7();
        t.promise8();
        t.promise9();
        t.promise10();
        t.promise11();
        t.promise12();
        t.promises13To15();
        t.check.end("TellingEdgesTest");
    }

    private void promise6() {
        sentence("compare: -1, 0, 1", this::compares);
        sentence("compare: the same (same terms)", this::comparesSame);
        sentence("compare: UNSURE if neither HIGH is below the other LOW", this::comparesUnsure);
        sentence("compare: NONE for another register", this::comparesOther);
    }

    private void promise7() {
        sentence("floor: the greatest whole number not above it", this::floors);
        sentence("floor: numbers below 0", this::floorsBelowZero);
        sentence("floor: UNSURE, 2^62 + 2", this::floorsUnsure);
        sentence("floor: 2^62 for another register", this::floorsOther);
    }

    private void promise8() {
        sentence("write: places 0 to 80", this::writesPlaces);
        sentence("write: what is behind them cut off", this::writesCutOff);
        sentence("write: - if it is below 0 (also if all that are told are 0)", this::writesSign);
        sentence("write: the digits before the point, at least one, no 0 in front else", this::writesWhole);
        sentence("write: how many bytes, at most", this::writesMost);
        sentence("write: UNSURE if neither LOW is above 0 nor HIGH below (OUT stays)", this::writesUnsureSign);
        sentence("write: UNSURE if ENDS have not the same digits so far (OUT stays)", this::writesUnsureDigits);
        sentence("write: REFUSED for other numbers", this::writesOther);
    }

    private void promise9() {
        sentence("octet: byte k of OUT", this::octets);
        sentence("octet: for k -1 how many", this::octetsHowMany);
        sentence("octet: NONE if there is none", this::octetsNone);
    }

    private void promise10() {
        sentence("partial: n 0 to 24", this::partials);
        sentence("partial: its floor is that of 0", this::partialsFloor);
        sentence("partial: 2^62 if it has ended before", this::partialsEnded);
        sentence("partial: 2^62 + 1 for other numbers", this::partialsOther);
        sentence("partial: 2^62 - 1 if it would be above 2^62 - 2", this::partialsGreat);
        sentence("partial: UNSURE if they have not the same whole numbers up to it", this::partialsUnsure);
        sentence("partial: UNSURE if one has ended before", this::partialsOneEnded);
        sentence("partial: UNSURE of a number that fits", this::partialsOfRoot);
    }

    private void promise11() {
        sentence("nearest: of two the one whose last bit is 0", this::nearestTies);
        sentence("nearest: the nearest", this::nearestOnes);
        sentence("nearest: UNSURE if neither LOW is above 0 nor HIGH below", this::nearestUnsureSign);
        sentence("nearest: UNSURE if they have not as many bits", this::nearestUnsureBits);
        sentence("nearest: UNSURE if they have not at least 54", this::nearestFewBits);
        sentence("nearest: UNSURE if they have not the same 54 highest", this::nearestUnsureHighest);
        sentence("nearest: 1 for another register", this::nearestOther);
    }

    private void promise12() {
        sentence("between: from register i on (it, too) up to below register j", this::betweens);
        sentence("between: 0 if none", this::betweensNone);
        sentence("between: 2^62 for other registers", this::betweensOther);
        sentence("between: UNSURE, 2^62 + 2, if the floor of one of them is", this::betweensUnsure);
    }

    private void promises13To15() {
        sentence("term: what 0: n, 1: d, 2: r", this::termsTold);
        sentence("term: NONE if there is none", this::termsNone);
        sentence("term: NONE if there is no such register", this::termsOfOther);
        sentence("term: NONE for another what", this::termsOtherWhat);
        sentence("terms: how many", this::howManyTerms);
        sentence("terms: NONE for another one", this::howManyOfOther);
        sentence("same: whether two registers have the same number", this::sames);
        sentence("same: false for others", this::samesOther);
    }

    /** Roots in registers 0 and 1, and something in OUT, so that ENDS can be planted. */
    private void roots() {
        loadRoot(0, 2, 1);
        loadRoot(1, 3, 1);
        load(2, -5, 2);
        due("write", x.write(2, 1), 4);
    }

    private void compares() {
        // m m - 2 n n is 1 or -1 for these m and n.
        long[][] near = {{318_281_039, 225_058_681, 1}, {768_398_401, 543_339_720, -1}};
        for (long[] f : near) {
            loadRoot(0, 2, 1);
            load(1, f[0], f[1]);
            stays("a near one", () -> x.compare(0, 1), f[2]);
            stays("the other way round", () -> x.compare(1, 0), -f[2]);
        }
        load(0, 999_999_999, BILLION);
        load(1, 999_999_998, 999_999_999);
        stays("fractions 10^-18 apart", () -> x.compare(0, 1), 1);
        stays("the other way round", () -> x.compare(1, 0), -1);
        load(0, -1, BILLION);
        stays("just below 0", () -> x.compare(0, 5), -1);
        stays("0 above it", () -> x.compare(5, 0), 1);
        load(0, -BILLION, 1);
        load(1, BILLION, 1);
        stays("the least and the greatest", () -> x.compare(0, 1), -1);
        one(0, -BILLION, 1, 99_999_989);
        one(1, BILLION, 1, 99_999_989);
        stays("the greatest and the least", () -> x.compare(1, 0), 1);
    }

    private void comparesSame() {
        roots();
        for (int i = 0; i < 8; i++) {
            int one = i;
            stays("with itself", () -> x.compare(one, one), 0);
        }
        loadRoot(5, 2, 1);
        stays("of the same terms", () -> x.compare(0, 5), 0);
        plant(0, ONE.negate(), ONE);
        plant(5, ONE.negate(), ONE);
        stays("whatever the ENDS", () -> x.compare(0, 5), 0);
        load(6, 6, 4);
        load(7, 3, 2);
        stays("fractions", () -> x.compare(6, 7), 0);
        stays("0 and 0", () -> x.compare(3, 4), 0);
    }

    private void comparesUnsure() {
        roots();
        plant(0, FIVE, FIVE.add(TWO));
        plant(1, FIVE.add(TWO), FIVE.add(BigInteger.TEN));
        stays("HIGH is the other LOW", () -> x.compare(0, 1), SurdDesk.UNSURE);
        stays("the other way round", () -> x.compare(1, 0), SurdDesk.UNSURE);
        plant(1, FIVE.add(TWO).add(ONE), FIVE.add(BigInteger.TEN));
        stays("HIGH is just below the other LOW", () -> x.compare(0, 1), -1);
        stays("the other way round", () -> x.compare(1, 0), 1);
        plant(1, FIVE.subtract(ONE), FIVE.add(BigInteger.TEN));
        stays("one within the other", () -> x.compare(0, 1), SurdDesk.UNSURE);
        stays("the other way round", () -> x.compare(1, 0), SurdDesk.UNSURE);
        // The ENDS of 5 itself are 5 2^1024 and one more.
        load(3, 5, 1);
        plant(0, FIVE.add(ONE), FIVE.add(TWO));
        stays("the HIGH of a fraction counts", () -> x.compare(0, 3), SurdDesk.UNSURE);
        plant(0, FIVE.add(TWO), FIVE.add(TWO).add(ONE));
        stays("above that HIGH", () -> x.compare(0, 3), 1);
        plant(0, FIVE.subtract(ONE), FIVE);
        stays("the LOW of a fraction", () -> x.compare(3, 0), SurdDesk.UNSURE);
        plant(0, FIVE.subtract(TWO), FIVE.subtract(ONE));
        stays("below that LOW", () -> x.compare(3, 0), 1);
        zeroAndEnds();
    }

    /** 0 has no term: its ENDS are both 0. */
    private void zeroAndEnds() {
        plant(0, ZERO, ONE);
        stays("LOW 0", () -> x.compare(0, 5), SurdDesk.UNSURE);
        plant(0, ONE, TWO);
        stays("LOW 1", () -> x.compare(0, 5), 1);
        plant(0, ONE.negate(), ZERO);
        stays("HIGH 0", () -> x.compare(0, 5), SurdDesk.UNSURE);
        plant(0, TWO.negate(), ONE.negate());
        stays("HIGH -1", () -> x.compare(0, 5), -1);
    }

    private void comparesOther() {
        roots();
        for (int k : OTHERS) {
            stays("i", () -> x.compare(k, 0), SurdDesk.NONE);
            stays("j", () -> x.compare(0, k), SurdDesk.NONE);
            stays("both", () -> x.compare(k, k), SurdDesk.NONE);
        }
        stays("the first and the last", () -> x.compare(0, 7), 1);
    }

    private void floorIs(long n, long d, long due) {
        load(0, n, d);
        stays("floor of " + n + " / " + d, () -> x.floor(0), due);
    }

    private void floors() {
        floorIs(0, 1, 0);
        floorIs(7, 7, 1);
        floorIs(6, 7, 0);
        floorIs(8, 7, 1);
        floorIs(1, BILLION, 0);
        floorIs(999_999_999, BILLION, 0);
        floorIs(BILLION, 999_999_999, 1);
        floorIs(BILLION, 1, BILLION);
        one(0, 225_058_681, 1, 2);
        stays("just above a whole number", () -> x.floor(0), 318_281_039);
        one(0, 543_339_720, 1, 2);
        stays("just below a whole number", () -> x.floor(0), 768_398_400);
        loadRoot(7, 99_999_989, 1);
        stays("of the last register", () -> x.floor(7), 9999);
    }

    private void floorsBelowZero() {
        floorIs(-1, BILLION, -1);
        floorIs(-7, 7, -1);
        floorIs(-8, 7, -2);
        floorIs(-6, 7, -1);
        floorIs(-14, 7, -2);
        floorIs(-BILLION, 1, -BILLION);
        floorIs(-BILLION, 999_999_999, -2);
        one(0, -1, 1, 2);
        stays("less the root of 2", () -> x.floor(0), -2);
        one(0, -225_058_681, 1, 2);
        stays("just below a whole number", () -> x.floor(0), -318_281_040);
        one(0, -543_339_720, 1, 2);
        stays("just above a whole number", () -> x.floor(0), -768_398_401);
        plus(0, 768_398_401, 1, 1);
        stays("just above 0", () -> x.floor(0), 0);
        due("turned round", x.reckon(1, 0, 5, 0), 2);
        stays("just below 0", () -> x.floor(0), -1);
    }

    private void floorIs(BigInteger low, BigInteger high, long due) {
        plant(0, low, high);
        stays("floor between " + low + " and " + high, () -> x.floor(0), due);
    }

    private void floorsUnsure() {
        roots();
        floorIs(FIVE, FIVE.add(ONE), 5);
        floorIs(FIVE.subtract(ONE), FIVE, UNTOLD);
        floorIs(FIVE.subtract(TWO), FIVE.subtract(ONE), 4);
        floorIs(FIVE, FIVE.add(SCALE).subtract(ONE), 5);
        floorIs(FIVE, FIVE.add(SCALE), UNTOLD);
        floorIs(ZERO, ONE, 0);
        floorIs(ONE.negate(), ZERO, UNTOLD);
        floorIs(ONE.negate(), ONE, UNTOLD);
        floorIs(TWO.negate(), ONE.negate(), -1);
        floorIs(FIVE.negate(), FIVE.negate().add(ONE), -5);
        floorIs(FIVE.negate().subtract(ONE), FIVE.negate(), UNTOLD);
        floorIs(FIVE.negate().subtract(TWO), FIVE.negate().subtract(ONE), -6);
        due("2^62 + 2", UNTOLD, 4611686018427387906L);
    }

    private void floorsOther() {
        roots();
        for (int k : OTHERS) {
            stays("floor", () -> x.floor(k), 4611686018427387904L);
        }
    }

    private void writesPlaces() {
        roots();
        load(3, 1, 3);
        written(3, 0, "0");
        written(3, 1, "0.3");
        written(3, 80, "0." + "3".repeat(80));
        written(0, 0, "1");
        written(0, 1, "1.4");
        due("write 79", x.write(0, 79), 81);
        due("write 80", x.write(0, 80), 82);
        due("the last", x.octet(81), '3');
        is(0, "1/1*2");
    }

    private void writesCutOff() {
        load(0, 2, 3);
        written(0, 4, "0.6666");
        load(0, -2, 3);
        written(0, 4, "-0.6666");
        load(0, 999_999_999, BILLION);
        written(0, 8, "0.99999999");
        written(0, 9, "0.999999999");
        written(0, 10, "0.9999999990");
        load(0, -5, 2);
        written(0, 0, "-2");
        one(0, 543_339_720, 1, 2);
        written(0, 9, "768398400.999999999");
        one(0, -543_339_720, 1, 2);
        written(0, 9, "-768398400.999999999");
    }

    private void writesSign() {
        load(0, -1, 1000);
        written(0, 2, "-0.00");
        written(0, 3, "-0.001");
        written(0, 0, "-0");
        load(0, -1, BILLION);
        written(0, 8, "-0.00000000");
        written(0, 9, "-0.000000001");
        load(0, 0, 1);
        written(0, 2, "0.00");
        // 543339720 root 2 - 768398401 is -6.5 10^-10.
        one(0, 543_339_720, 1, 2);
        plus(0, -768_398_401, 1, 1);
        written(0, 0, "-0");
        written(0, 9, "-0.000000000");
        written(0, 10, "-0.0000000006");
        due("turned round", x.reckon(1, 0, 5, 0), 2);
        written(0, 9, "0.000000000");
        written(0, 10, "0.0000000006");
    }

    private void writesWhole() {
        load(0, 0, 1);
        written(0, 0, "0");
        load(0, 9, 10);
        written(0, 0, "0");
        written(0, 1, "0.9");
        load(0, 9, 1);
        written(0, 0, "9");
        load(0, 10, 1);
        written(0, 0, "10");
        load(0, 999_999_999, 1);
        written(0, 0, "999999999");
        load(0, BILLION, 1);
        written(0, 0, "1000000000");
        written(0, 1, "1000000000.0");
        one(0, 7, 1, 2);
        written(0, 1, "9.8");
        one(0, 71, 1, 2);
        written(0, 1, "100.4");
        one(0, -71, 1, 2);
        written(0, 1, "-100.4");
    }

    /** 10^9 times the roots of numbers just below 10^9, eight of them, is near the greatest there is. */
    private void writesMost() {
        long[] radicands = {99_999_997, 99_999_993, 99_999_991, 99_999_989, 99_999_987, 99_999_983, 99_999_979, 99_999_977};
        for (long r : radicands) {
            plus(0, 1, 1, r);
        }
        one(1, -BILLION, 1, 10);
        due("eight terms", x.reckon(2, 0, 0, 1), 8);
        String due = "252982196369625.84644369145574068323804378205653775729048089053358807598584813687580399672540302";
        written(0, 80, "-" + due);
        due("bytes", x.octet(-1), 97);
        due("the last", x.octet(96), '2');
        due("behind it", x.octet(97), SurdDesk.NONE);
        due("turned round", x.reckon(1, 0, 5, 0), 8);
        written(0, 80, due);
        due("floor", x.floor(0), 252_982_196_369_625L);
    }

    private void isUnsure(BigInteger low, BigInteger high, int places) {
        plant(0, low, high);
        stays("write between " + low + " and " + high, () -> x.write(0, places), SurdDesk.UNSURE);
    }

    private void isWritten(BigInteger low, BigInteger high, int places, String due) {
        plant(0, low, high);
        written(0, places, due);
    }

    private void writesUnsureSign() {
        roots();
        isUnsure(ONE.negate(), ONE, 0);
        isUnsure(ZERO, ONE, 0);
        isUnsure(ONE.negate(), ZERO, 0);
        isUnsure(ZERO, ONE, 80);
        isUnsure(ONE.negate(), ZERO, 80);
        isWritten(ONE, TWO, 0, "0");
        isWritten(TWO.negate(), ONE.negate(), 0, "-0");
        isWritten(ONE, TWO, 80, "0." + "0".repeat(80));
        isWritten(TWO.negate(), ONE.negate(), 80, "-0." + "0".repeat(80));
    }

    private void writesUnsureDigits() {
        roots();
        isUnsure(SCALE.subtract(ONE), SCALE, 0);
        isUnsure(SCALE.negate(), SCALE.subtract(ONE).negate(), 0);
        isWritten(SCALE, SCALE.add(ONE), 0, "1");
        isWritten(SCALE.subtract(TWO), SCALE.subtract(ONE), 0, "0");
        isWritten(SCALE.add(ONE).negate(), SCALE.negate(), 0, "-1");
        // 1 + 3 / 10^80, and the whole number next above it times 2^1024.
        BigInteger tens = BigInteger.TEN.pow(80);
        BigInteger next = SCALE.multiply(tens.add(BigInteger.valueOf(3))).divide(tens).add(ONE);
        String zeros = "1." + "0".repeat(79);
        isUnsure(next.subtract(ONE), next, 80);
        isUnsure(next.negate(), next.subtract(ONE).negate(), 80);
        isWritten(next.subtract(ONE), next, 79, zeros);
        isWritten(next, next.add(ONE), 80, zeros + "3");
        isWritten(next.subtract(TWO), next.subtract(ONE), 80, zeros + "2");
        isWritten(next.add(ONE).negate(), next.negate(), 80, "-" + zeros + "3");
        // 3/10 is between: no place behind the first is told either.
        BigInteger tenths = SCALE.multiply(BigInteger.valueOf(3)).divide(BigInteger.TEN);
        isWritten(tenths, tenths.add(ONE), 0, "0");
        isUnsure(tenths, tenths.add(ONE), 1);
        isUnsure(tenths, tenths.add(ONE), 2);
        // 1/2 2^1024 is whole: LOW has that digit itself.
        BigInteger half = SCALE.shiftRight(1);
        isWritten(half, half.add(ONE), 1, "0.5");
        isUnsure(half.subtract(ONE), half, 1);
        isWritten(half.add(ONE).negate(), half.negate(), 80, "-0.5" + "0".repeat(79));
        // 19/100 2^1024 is just above a whole number.
        BigInteger hundredths = SCALE.multiply(BigInteger.valueOf(19)).divide(BigInteger.valueOf(100));
        isUnsure(hundredths, hundredths.add(ONE), 2);
        isWritten(hundredths.subtract(ONE), hundredths, 2, "0.18");
    }

    private void writesOther() {
        roots();
        for (int places : new int[] {-1, 81, 82, -80, 256, Integer.MIN_VALUE, Integer.MAX_VALUE}) {
            stays("places " + places, () -> x.write(0, places), SurdDesk.REFUSED);
            stays("of a fraction", () -> x.write(2, places), SurdDesk.REFUSED);
        }
        for (int k : OTHERS) {
            stays("register", () -> x.write(k, 0), SurdDesk.REFUSED);
            stays("register", () -> x.write(k, 80), SurdDesk.REFUSED);
            stays("both", () -> x.write(k, 81), SurdDesk.REFUSED);
        }
        plant(0, ZERO, ONE);
        stays("also if it would be UNSURE", () -> x.write(0, 81), SurdDesk.REFUSED);
        written(7, 0, "0");
    }

    private void octets() {
        load(0, -123, 100);
        due("write", x.write(0, 2), 5);
        String due = "-1.23";
        for (int k = 0; k < due.length(); k++) {
            int at = k;
            stays("octet " + k, () -> x.octet(at), due.charAt(k));
        }
    }

    private void octetsHowMany() {
        roots();
        stays("as written", () -> x.octet(-1), 4);
        due("longer", x.write(0, 80), 82);
        stays("longer", () -> x.octet(-1), 82);
        due("shorter", x.write(0, 0), 1);
        stays("shorter", () -> x.octet(-1), 1);
    }

    private void octetsNone() {
        due("of nothing", x.octet(0), SurdDesk.NONE);
        roots();
        due("longer", x.write(0, 80), 82);
        due("the last", x.octet(81), '3');
        due("behind it", x.octet(82), SurdDesk.NONE);
        due("shorter", x.write(0, 2), 4);
        due("the last", x.octet(3), '1');
        for (int k : new int[] {4, 5, 81, 82, 127, 128, 1000, -2, -3, -128, Integer.MIN_VALUE, Integer.MAX_VALUE}) {
            stays("octet " + k, () -> x.octet(k), SurdDesk.NONE);
        }
    }

    private void partials() {
        roots();
        stays("the first", () -> x.partial(1, 0), 1);
        stays("the last", () -> x.partial(1, 24), 2);
        stays("the last but one", () -> x.partial(1, 23), 1);
        // Fibonacci's numbers: 25 whole numbers, then 26.
        load(3, 196_418, 121_393);
        stays("the first", () -> x.partial(3, 0), 1);
        stays("the last", () -> x.partial(3, 24), 2);
        load(3, 317_811, 196_418);
        stays("the last that is asked", () -> x.partial(3, 24), 1);
    }

    private void partialsFloor() {
        long[][] fractions = {{7, 2, 3, 2}, {-7, 2, -4, 2}, {-1, BILLION, -1, 1}, {1, BILLION, 0, BILLION}};
        for (long[] f : fractions) {
            load(0, f[0], f[1]);
            stays("floor", () -> x.partial(0, 0), f[2]);
            stays("what is left, upside down", () -> x.partial(0, 1), f[3]);
        }
        one(0, -1, 1, 2);
        stays("below 0", () -> x.partial(0, 0), -2);
        stays("what is left is above 0", () -> x.partial(0, 1), 1);
        // 543339720 root 2 is just below 768398401.
        one(0, 543_339_720, 1, 2);
        stays("floor", () -> x.partial(0, 0), 768_398_400);
        stays("nearly 1 is left", () -> x.partial(0, 1), 1);
        stays("then hardly any", () -> x.partial(0, 2), 1_536_796_800L);
    }

    private void partialsEnded() {
        for (int n = 1; n <= 24; n++) {
            int at = n;
            stays("of 0", () -> x.partial(0, at), TWO_62);
        }
        load(0, -5, 1);
        stays("of a whole number, the last", () -> x.partial(0, 0), -5);
        stays("of a whole number", () -> x.partial(0, 1), TWO_62);
        load(0, 5, 3);
        stays("of 5 / 3, the last", () -> x.partial(0, 2), 2);
        stays("of 5 / 3", () -> x.partial(0, 3), TWO_62);
        load(0, 121_393, 75_025);
        stays("24 of them, the last", () -> x.partial(0, 23), 2);
        stays("24 of them", () -> x.partial(0, 24), TWO_62);
    }

    private void partialsOther() {
        roots();
        for (int n : new int[] {-1, 25, 26, -24, 256, Integer.MIN_VALUE, Integer.MAX_VALUE}) {
            stays("n " + n, () -> x.partial(0, n), TWO_62 + 1);
            stays("of a fraction", () -> x.partial(2, n), TWO_62 + 1);
            stays("of 0, which has ended", () -> x.partial(5, n), TWO_62 + 1);
        }
        for (int k : OTHERS) {
            stays("register", () -> x.partial(k, 0), TWO_62 + 1);
            stays("register", () -> x.partial(k, 24), TWO_62 + 1);
            stays("both", () -> x.partial(k, 25), TWO_62 + 1);
        }
        plant(0, ONE.negate(), ONE);
        stays("also if it would be UNSURE", () -> x.partial(0, 25), TWO_62 + 1);
    }

    private void partialIs(BigInteger low, BigInteger high, int n, long due) {
        plant(0, low, high);
        stays("partial " + n + " between " + low + " and " + high, () -> x.partial(0, n), due);
    }

    /** ENDS next to 1 / (q + 1/2). */
    private void oneIs(BigInteger q, long due) {
        BigInteger low = SCALE.shiftLeft(1).divide(q.shiftLeft(1).add(ONE));
        partialIs(low, low.add(ONE), 1, due);
    }

    private void partialsGreat() {
        roots();
        BigInteger most = BigInteger.valueOf(TWO_62 - 2);
        oneIs(most.subtract(ONE), TWO_62 - 3);
        oneIs(most, TWO_62 - 2);
        oneIs(most.add(ONE), TWO_62 - 1);
        oneIs(most.add(TWO), TWO_62 - 1);
        oneIs(most.add(BigInteger.TEN), TWO_62 - 1);
        oneIs(ONE.shiftLeft(63), TWO_62 - 1);
        oneIs(ONE.shiftLeft(64), TWO_62 - 1);
        oneIs(ONE.shiftLeft(64).add(ONE), TWO_62 - 1);
        oneIs(ONE.shiftLeft(500), TWO_62 - 1);
        // 1 / (2^70 + 3/10): it goes on behind the great one.
        BigInteger upsideDown = ONE.shiftLeft(70).multiply(BigInteger.TEN).add(BigInteger.valueOf(3));
        BigInteger low = SCALE.multiply(BigInteger.TEN).divide(upsideDown);
        partialIs(low, low.add(ONE), 1, TWO_62 - 1);
        partialIs(low, low.add(ONE), 2, 3);
    }

    private void partialsUnsure() {
        roots();
        partialIs(FIVE.subtract(ONE), FIVE, 0, UNTOLD);
        partialIs(FIVE.subtract(ONE), FIVE, 1, UNTOLD);
        partialIs(FIVE, FIVE.add(ONE), 0, 5);
        // 1/3 is between: 0, then 2 or 3.
        BigInteger third = SCALE.divide(BigInteger.valueOf(3));
        partialIs(third, third.add(ONE), 0, 0);
        partialIs(third, third.add(ONE), 1, UNTOLD);
        partialIs(third, third.add(ONE), 2, UNTOLD);
        partialIs(third.add(ONE), third.add(TWO), 1, 2);
        partialIs(third.subtract(ONE), third, 1, 3);
        // 2/5 is between: 0, 2, then 2 or 1.
        BigInteger fifths = SCALE.multiply(TWO).divide(BigInteger.valueOf(5));
        partialIs(fifths, fifths.add(ONE), 1, 2);
        partialIs(fifths, fifths.add(ONE), 2, UNTOLD);
        partialIs(fifths, fifths.add(ONE), 24, UNTOLD);
        partialIs(fifths.negate().subtract(ONE), fifths.negate(), 0, -1);
        partialIs(fifths.negate().subtract(ONE), fifths.negate(), 1, 1);
        partialIs(fifths.negate().subtract(ONE), fifths.negate(), 3, UNTOLD);
        // Both are above 2^62 - 2, and yet not the same.
        BigInteger high = SCALE.divide(ONE.shiftLeft(70).add(ONE)).add(ONE);
        partialIs(high.subtract(ONE), high, 1, UNTOLD);
        partialIs(high, high.add(ONE), 1, TWO_62 - 1);
    }

    private void partialsOneEnded() {
        roots();
        partialIs(ZERO, ONE, 0, 0);
        partialIs(ZERO, ONE, 1, UNTOLD);
        partialIs(FIVE, FIVE.add(ONE), 0, 5);
        partialIs(FIVE, FIVE.add(ONE), 1, UNTOLD);
        partialIs(FIVE.negate(), FIVE.negate().add(ONE), 0, -5);
        partialIs(FIVE.negate(), FIVE.negate().add(ONE), 1, UNTOLD);
        // HIGH is 1/2: 0, 2, and LOW goes on.
        BigInteger half = SCALE.shiftRight(1);
        partialIs(half.subtract(ONE), half, 1, 2);
        partialIs(half.subtract(ONE), half, 2, UNTOLD);
        partialIs(half.subtract(ONE), half, 24, UNTOLD);
        // LOW is 3/4: 0, 1, 3, and HIGH goes on.
        BigInteger quarters = SCALE.shiftRight(2).multiply(BigInteger.valueOf(3));
        partialIs(quarters, quarters.add(ONE), 2, 3);
        partialIs(quarters, quarters.add(ONE), 3, UNTOLD);
        // Both have ended: that is no end of a number that is no FRACTION.
        partialIs(quarters, quarters, 2, 3);
        partialIs(quarters, quarters, 3, UNTOLD);
        partialIs(ONE, TWO, 1, UNTOLD);
    }

    private void partialsOfRoot() {
        one(0, 225_058_681, 1, 2);
        due("write", x.write(0, 0), 9);
        for (int n = 0; n <= 24; n++) {
            int at = n;
            stays("partial " + n, () -> x.partial(0, at), n == 0 ? 318_281_039 : n <= 17 ? 636_562_078 : UNTOLD);
        }
        due("the same afterwards", x.partial(0, 17), 636_562_078);
        // Of the root of 2 all are told.
        loadRoot(0, 2, 1);
        due("root of 2", x.partial(0, 24), 2);
    }

    private static long bits(double value) {
        return Double.doubleToRawLongBits(value);
    }

    /** No fraction that fits lies between two doubles in the middle, so greater ones are asked for. */
    private void nearestTies() {
        long unit = 1L << 30;
        long[][] ties = {{(1L << 53) + 1, 1L << 53}, {(1L << 53) + 3, (1L << 53) + 4}, {(1L << 53) + 5, (1L << 53) + 4},
            {(1L << 54) - 1, 1L << 54}};
        for (long[] tie : ties) {
            due("tie", SurdDesk.Doubles.ofFraction(tie[0], unit), bits(Math.scalb((double) tie[1], -30)));
            due("tie below 0", SurdDesk.Doubles.ofFraction(-tie[0], unit), bits(-Math.scalb((double) tie[1], -30)));
        }
        load(0, 536_870_911, 536_870_912);
        stays("exact", () -> x.nearest(0), bits(536_870_911.0 / 536_870_912.0));
    }

    private void nearestOnes() {
        stays("0 has no sign", () -> x.nearest(0), 0);
        long[][] fractions = {{1, 1}, {-1, 1}, {1, 3}, {-1, 3}, {1, BILLION}, {BILLION, 1}, {BILLION, 999_999_999},
            {999_999_999, BILLION}, {999_999_998, 999_999_999}, {-1, 999_999_999}};
        for (long[] f : fractions) {
            load(0, f[0], f[1]);
            stays("nearest " + f[0] + " / " + f[1], () -> x.nearest(0), bits((double) f[0] / (double) f[1]));
        }
        loadRoot(0, 2, 1);
        stays("root of 2", () -> x.nearest(0), 4609047870845172685L);
        one(0, -1, 1, 2);
        stays("less it", () -> x.nearest(0), -4614324166009603123L);
    }

    private void nearestIs(BigInteger low, BigInteger high, long due) {
        plant(0, low, high);
        stays("nearest between " + low + " and " + high, () -> x.nearest(0), due);
        plant(0, high.negate(), low.negate());
        long below = due == NOT_A_NUMBER ? due : due | Long.MIN_VALUE;
        stays("nearest between less " + high + " and less " + low, () -> x.nearest(0), below);
    }

    private void nearestUnsureSign() {
        roots();
        BigInteger far = ONE.shiftLeft(60);
        nearestIs(ZERO, ONE, NOT_A_NUMBER);
        nearestIs(ONE.negate(), ONE, NOT_A_NUMBER);
        nearestIs(far.negate(), far, NOT_A_NUMBER);
        nearestIs(far, far.add(ONE), bits(Math.scalb(1.0, 60 - 1024)));
        due("no number", Double.isNaN(Double.longBitsToDouble(NOT_A_NUMBER)), true);
    }

    private void nearestUnsureBits() {
        roots();
        BigInteger power = ONE.shiftLeft(1000);
        nearestIs(power.subtract(ONE), power, NOT_A_NUMBER);
        nearestIs(power, power.add(ONE), bits(Math.scalb(1.0, -24)));
        nearestIs(power.subtract(TWO), power.subtract(ONE), bits(Math.scalb(1.0, -24)));
        // The 54 highest bits are the same, the lengths are not.
        nearestIs(power, power.shiftLeft(1), NOT_A_NUMBER);
        nearestIs(SCALE.subtract(ONE), SCALE, NOT_A_NUMBER);
        nearestIs(SCALE, SCALE.add(ONE), bits(1.0));
    }

    private void nearestFewBits() {
        roots();
        BigInteger first = ONE.shiftLeft(53);
        nearestIs(first, first, bits(Math.scalb(1.0, 53 - 1024)));
        nearestIs(first.subtract(ONE), first.subtract(ONE), NOT_A_NUMBER);
        nearestIs(ONE, ONE, NOT_A_NUMBER);
        nearestIs(ONE, TWO, NOT_A_NUMBER);
        nearestIs(first, first.add(ONE), NOT_A_NUMBER);
        nearestIs(first.shiftLeft(1), first.shiftLeft(1).add(ONE), bits(Math.scalb(1.0, 54 - 1024)));
    }

    private void nearestUnsureHighest() {
        roots();
        // 54 bits, then ten more that differ only in the last of them.
        BigInteger digits = ONE.shiftLeft(53).add(BigInteger.valueOf(6));
        BigInteger low = digits.shiftLeft(10);
        double unit = Math.scalb(1.0, 11 - 1024);
        nearestIs(low, low.add(ONE), bits(((1L << 52) + 3) * unit));
        nearestIs(low, low.add(BigInteger.valueOf(1023)), bits(((1L << 52) + 3) * unit));
        nearestIs(low, low.add(BigInteger.valueOf(1024)), NOT_A_NUMBER);
        nearestIs(low.subtract(ONE), low, NOT_A_NUMBER);
        // The 54th bit is 1, and there is more behind it: up, also where it is even so far.
        BigInteger odd = ONE.shiftLeft(53).add(BigInteger.valueOf(5)).shiftLeft(10);
        nearestIs(odd, odd.add(ONE), bits(((1L << 52) + 3) * unit));
        nearestIs(odd.subtract(TWO), odd.subtract(ONE), bits(((1L << 52) + 2) * unit));
        // All bits are 1: up to the next power.
        BigInteger ones = ONE.shiftLeft(64).subtract(BigInteger.valueOf(1024));
        nearestIs(ones, ones.add(ONE), bits(Math.scalb(1.0, 64 - 1024)));
    }

    private void nearestOther() {
        roots();
        for (int k : OTHERS) {
            stays("nearest", () -> x.nearest(k), 1);
        }
        stays("the last register", () -> x.nearest(7), 0);
    }

    private void betweenIs(long n, long d, long m, long e, long due) {
        load(3, n, d);
        load(4, m, e);
        stays("between " + n + " / " + d + " and " + m + " / " + e, () -> x.between(3, 4), due);
    }

    private void betweens() {
        betweenIs(1, 1, 2, 1, 1);
        betweenIs(1, 1, 3, 2, 1);
        betweenIs(1, 2, 1, 1, 0);
        betweenIs(1, 2, BILLION, 999_999_999, 1);
        betweenIs(999_999_999, BILLION, BILLION, 999_999_999, 1);
        betweenIs(-1, BILLION, 1, BILLION, 1);
        betweenIs(-1, BILLION, 0, 1, 0);
        betweenIs(0, 1, 1, BILLION, 1);
        betweenIs(-7, 2, -3, 1, 0);
        betweenIs(-3, 1, -5, 2, 1);
        betweenIs(-BILLION, 1, BILLION, 1, 2 * BILLION);
        roots();
        load(3, 2, 1);
        load(4, 1, 1);
        stays("1 and the root of 3", () -> x.between(4, 1), 1);
        stays("the root of 3 and 2", () -> x.between(1, 3), 0);
        one(5, -1, 1, 3);
        stays("-1, 0, 1", () -> x.between(5, 1), 3);
        one(5, 225_058_681, 1, 2);
        load(3, 318_281_039, 1);
        load(4, 318_281_040, 1);
        stays("just above a whole number", () -> x.between(3, 5), 1);
        stays("not that one", () -> x.between(5, 4), 0);
    }

    private void betweensNone() {
        roots();
        for (int i = 0; i < 8; i++) {
            int one = i;
            stays("with itself", () -> x.between(one, one), 0);
        }
        stays("roots of 2 and 3", () -> x.between(0, 1), 0);
        stays("the other way round", () -> x.between(1, 0), 0);
        stays("backwards", () -> x.between(1, 2), 0);
        betweenIs(2, 1, 1, 1, 0);
        betweenIs(BILLION, 1, -BILLION, 1, 0);
    }

    private void betweensOther() {
        roots();
        for (int k : OTHERS) {
            stays("i", () -> x.between(k, 0), TWO_62);
            stays("j", () -> x.between(0, k), TWO_62);
            stays("both", () -> x.between(k, k), TWO_62);
        }
        plant(0, ONE.negate(), ONE);
        stays("also if the floor is UNSURE", () -> x.between(0, 8), TWO_62);
        stays("also if the floor is UNSURE", () -> x.between(8, 0), TWO_62);
    }

    private void betweensUnsure() {
        roots();
        plant(0, FIVE.subtract(ONE), FIVE);
        stays("i", () -> x.between(0, 1), UNTOLD);
        stays("j", () -> x.between(1, 0), UNTOLD);
        stays("j, and a fraction", () -> x.between(2, 0), UNTOLD);
        stays("i, and 0", () -> x.between(0, 7), UNTOLD);
        stays("both", () -> x.between(0, 0), UNTOLD);
        // LOW is whole, yet the number is not: 5 is not from it on.
        plant(0, FIVE, FIVE.add(ONE));
        load(3, 5, 1);
        load(4, 6, 1);
        stays("from just above 5 to 6", () -> x.between(0, 4), 0);
        stays("from 5 to just above it", () -> x.between(3, 0), 1);
        plant(0, FIVE.subtract(TWO), FIVE.subtract(ONE));
        stays("from just below 5 to 6", () -> x.between(0, 4), 1);
        stays("from 5 to just below it", () -> x.between(3, 0), 0);
    }

    private void termsTold() {
        plus(0, -3, 4, 7);
        plus(0, 5, 6, 1);
        int[][] due = {{5, 6, 1}, {-3, 4, 7}};
        for (int k = 0; k < 2; k++) {
            for (int what = 0; what < 3; what++) {
                int at = k, which = what;
                stays("term", () -> x.term(0, at, which), due[k][what]);
            }
        }
        load(7, -BILLION, 999_999_999);
        stays("the least n", () -> x.term(7, 0, 0), -BILLION);
        stays("a great d", () -> x.term(7, 0, 1), 999_999_999);
    }

    private void termsNone() {
        roots();
        stays("the only one", () -> x.term(0, 0, 2), 2);
        for (int k : new int[] {-1, 1, 2, 7, 8, 9, Integer.MIN_VALUE, Integer.MAX_VALUE}) {
            for (int what = 0; what < 3; what++) {
                int which = what;
                stays("term " + k, () -> x.term(0, k, which), SurdDesk.NONE);
                stays("of 0", () -> x.term(5, k, which), SurdDesk.NONE);
            }
        }
        stays("of 0", () -> x.term(5, 0, 0), SurdDesk.NONE);
        for (long p : new long[] {2, 3, 5, 7, 11, 13, 17, 19}) {
            plus(3, 1, 1, p);
        }
        stays("the eighth", () -> x.term(3, 7, 2), 19);
        stays("the ninth", () -> x.term(3, 8, 2), SurdDesk.NONE);
        due("fewer again", x.reckon(1, 3, 3, 0), 7);
        stays("the seventh", () -> x.term(3, 6, 2), 19);
        stays("the eighth", () -> x.term(3, 7, 2), SurdDesk.NONE);
    }

    private void termsOfOther() {
        for (int i = 0; i < 8; i++) {
            load(i, 1, 1);
        }
        for (int k : OTHERS) {
            for (int what = -1; what < 4; what++) {
                int which = what;
                stays("term", () -> x.term(k, 0, which), SurdDesk.NONE);
            }
        }
        stays("the first", () -> x.term(0, 0, 0), 1);
        stays("the last", () -> x.term(7, 0, 0), 1);
    }

    private void termsOtherWhat() {
        roots();
        for (int what : new int[] {-1, 3, 4, 256, Integer.MIN_VALUE, Integer.MAX_VALUE}) {
            stays("what " + what, () -> x.term(0, 0, what), SurdDesk.NONE);
        }
        stays("the first", () -> x.term(0, 0, 0), 1);
        stays("the last", () -> x.term(0, 0, 2), 2);
    }

    private void howManyTerms() {
        stays("none", () -> x.terms(0), 0);
        long[] radicands = {1, 2, 3, 5, 6, 7, 10, 11};
        for (int k = 0; k < radicands.length; k++) {
            plus(0, 1, 1, radicands[k]);
            stays("terms", () -> x.terms(0), k + 1);
        }
        loadRoot(7, 13, 1);
        stays("a ninth does not come", () -> x.reckon(0, 0, 0, 7), SurdDesk.FULL);
        stays("still eight", () -> x.terms(0), 8);
        stays("of the last register", () -> x.terms(7), 1);
    }

    private void howManyOfOther() {
        roots();
        for (int k : OTHERS) {
            stays("terms", () -> x.terms(k), SurdDesk.NONE);
        }
    }

    private void isSame(String call, int i, int j, boolean due) {
        stays(call, () -> x.same(i, j) ? 1 : 0, due ? 1 : 0);
        stays(call + ", the other way round", () -> x.same(j, i) ? 1 : 0, due ? 1 : 0);
    }

    private void sames() {
        isSame("0 and 0", 0, 7, true);
        plus(0, 1, 2, 2);
        plus(0, 1, 1, 3);
        isSame("itself", 0, 0, true);
        isSame("0", 0, 5, false);
        plus(1, 1, 1, 3);
        isSame("a term more", 0, 1, false);
        plus(1, 1, 2, 2);
        isSame("in another order", 0, 1, true);
        load(2, 2, 3);
        load(3, -2, 3);
        isSame("another sign", 2, 3, false);
        load(3, 2, 5);
        isSame("another d", 2, 3, false);
        load(3, 4, 3);
        isSame("another n", 2, 3, false);
        one(3, 2, 3, 2);
        isSame("another r", 2, 3, false);
        load(3, 4, 6);
        isSame("in lowest terms", 2, 3, true);
        // Only the last of their terms differ.
        plus(1, 1, 1, 5);
        plus(0, 1, 1, 6);
        isSame("another last r", 0, 1, false);
    }

    private void samesOther() {
        roots();
        for (int k : OTHERS) {
            stays("i", () -> x.same(k, 0) ? 1 : 0, 0);
            stays("j", () -> x.same(0, k) ? 1 : 0, 0);
            stays("both", () -> x.same(k, k) ? 1 : 0, 0);
            stays("with 0", () -> x.same(k, 5) ? 1 : 0, 0);
        }
    }
}
