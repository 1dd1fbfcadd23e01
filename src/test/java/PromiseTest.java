/** Each promise by examples whose answers were found by hand or by whole-number roots elsewhere. */
public final class PromiseTest extends Bench {
    private static final String ROOT_2 =
        "1.41421356237309504880168872420969807856967187537694807317667973799073247846210703";

    public static void main(String[] args) {
        PromiseTest test = new PromiseTest();
        test.promise1();
        test.promise2();
        test.promise3();
        test.promise4();
        test.promise4Edges();
        test.promise5();
        test.promise6();
        test.promise7();
        test.promise8();
        test.promise9();
        test.promise10();
        test.promise10Edges();
        test.promise11();
        test.promise12();
        test.promise13();
        test.promise14();
        test.promise15();
        test.check.end("PromiseTest");
    }

    private void promise1() {
        x = new SurdDesk();
        for (int k = 0; k < 8; k++) {
            due("terms", x.terms(k), 0);
            due("floor", x.floor(k), 0);
            due("nearest", x.nearest(k), 0);
            check.due("same", x.same(k, 0), true);
        }
        due("octet", x.octet(-1), 0);
        due("octet", x.octet(0), SurdDesk.NONE);
        due("REFUSED", SurdDesk.REFUSED, -1);
        due("NONE", SurdDesk.NONE, -2);
        due("FULL", SurdDesk.FULL, -3);
        due("UNSURE", SurdDesk.UNSURE, -4);
        SurdDesk other = new SurdDesk();
        other.load(0, 5, 1);
        due("two objects share nothing", x.terms(0), 0);
    }

    private void promise2() {
        x = new SurdDesk();
        long least = Long.MIN_VALUE;
        long[][] fine = {{6, 4, 3, 2}, {-6, 4, -3, 2}, {6, -4, -3, 2}, {-6, -4, 3, 2}, {BILLION, 1, BILLION, 1},
            {-BILLION, 1, -BILLION, 1}, {1, BILLION, 1, BILLION}, {1, -BILLION, -1, BILLION},
            {2 * BILLION, 2, BILLION, 1}, {BILLION + 1, BILLION + 1, 1, 1}, {least, least, 1, 1},
            {least, 1L << 62, -2, 1}, {1L << 62, least, -1, 2}, {least, 1L << 40, -(1 << 23), 1},
            {Long.MAX_VALUE, -Long.MAX_VALUE, -1, 1}, {BILLION, BILLION - 1, BILLION, BILLION - 1}};
        for (long[] f : fine) {
            due("load", x.load(3, f[0], f[1]), 0);
            is(3, f[2] + "/" + f[3] + "*1");
        }
        for (long[] f : new long[][] {{0, 5}, {0, -5}, {0, least}, {0, Long.MAX_VALUE}}) {
            x.load(3, 1, 1);
            due("load 0", x.load(3, f[0], f[1]), 0);
            is(3, "");
        }
        x.load(3, 7, 9);
        long[][] full = {{BILLION + 1, 1}, {-BILLION - 1, 1}, {1, BILLION + 1}, {1, -BILLION - 1}, {2 * BILLION + 2, 2},
            {least, 1}, {least, -1}, {1, least}, {-1, least}, {least, 2}, {Long.MAX_VALUE, least}, {1L << 32, 1},
            {1, 1L << 32}, {(1L << 32) + 5, 3}};
        for (long[] f : full) {
            due("load " + f[0] + " / " + f[1], x.load(3, f[0], f[1]), SurdDesk.FULL);
            is(3, "7/9*1");
        }
        due("load", x.load(3, 1, 0), SurdDesk.REFUSED);
        due("load", x.load(3, 0, 0), SurdDesk.REFUSED);
        is(3, "7/9*1");
        for (int k : OTHERS) {
            due("load", x.load(k, 1, 1), SurdDesk.REFUSED);
            due("load", x.load(k, BILLION + 1, 1), SurdDesk.REFUSED);
            due("load", x.load(k, 1, 0), SurdDesk.REFUSED);
        }
    }

    private void promise3() {
        x = new SurdDesk();
        long[][] fine = {{2, 1, 1, 1, 2}, {50, 1, 5, 1, 2}, {1, 50, 1, 10, 2}, {8, 9, 2, 3, 2}, {49, 4, 7, 2, 1},
            {1, 1, 1, 1, 1}, {1, 3, 1, 3, 3}, {12, 5, 2, 5, 15}, {100_000_000, 1, 10000, 1, 1},
            {1, 100_000_000, 1, 10000, 1}, {9999, 10000, 3, 100, 1111}, {67108864, 1, 8192, 1, 1},
            {33554432, 1, 4096, 1, 2}, {43046721, 1, 6561, 1, 1}, {9699690, 1, 1, 1, 9699690}, {99460729, 1, 9973, 1, 1},
            {99941522, 1, 7069, 1, 2}, {99252847, 1, 463, 1, 463}, {99999989, 1, 1, 1, 99999989},
            {99999999, 1, 3, 1, 11111111}, {3 * 5 * 5 * 7 * 7 * 7, 1, 35, 1, 21}};
        for (long[] f : fine) {
            x.load(0, f[0], f[1]);
            due("root", x.root(1, 0), 0);
            is(1, f[2] + "/" + f[3] + "*" + f[4]);
            is(0, f[0] + "/" + f[1] + "*1");
        }
        due("root of 0", x.root(1, 5), 0);
        is(1, "");
        loadRoot(1, 2, 1);
        x.load(0, -1, 1);
        due("below 0", x.root(1, 0), SurdDesk.NONE);
        x.load(0, -BILLION, 1);
        due("below 0, and great", x.root(1, 0), SurdDesk.NONE);
        due("no fraction", x.root(1, 1), SurdDesk.NONE);
        x.load(0, 1, 2);
        x.reckon(0, 2, 0, 1);
        due("two terms", x.root(1, 2), SurdDesk.NONE);
        for (long[] f : new long[][] {{100_000_001, 1}, {1, 100_000_001}, {10001, 10000}, {BILLION, 1}, {BILLION, BILLION - 1}}) {
            x.load(0, f[0], f[1]);
            due("n d too great", x.root(1, 0), SurdDesk.FULL);
        }
        is(1, "1/1*2");
        for (int k : OTHERS) {
            due("REFUSED comes first", x.root(k, 1), SurdDesk.REFUSED);
            due("root", x.root(1, k), SurdDesk.REFUSED);
        }
    }

    private void promise4() {
        x = new SurdDesk();
        loadRoot(0, 2, 1);
        loadRoot(1, 3, 1);
        due("sum", x.reckon(0, 2, 1, 0), 2);
        is(2, "1/1*2 1/1*3");
        due("difference", x.reckon(1, 3, 0, 1), 2);
        is(3, "1/1*2 -1/1*3");
        due("product", x.reckon(2, 4, 2, 3), 1);
        is(4, "-1/1*1");
        due("square, in place", x.reckon(2, 2, 2, 2), 2);
        is(2, "5/1*1 2/1*6");
        due("a term goes", x.reckon(1, 5, 2, 2), 0);
        is(5, "");
        due("0 times a number", x.reckon(2, 2, 5, 3), 0);
        due("0 - a number", x.reckon(1, 2, 5, 3), 2);
        is(2, "-1/1*2 1/1*3");
        x.load(0, 5, 6);
        x.load(1, 1, 6);
        due("lowest terms", x.reckon(0, 0, 0, 1), 1);
        is(0, "1/1*1");
        loadRoot(0, 6, 1);
        loadRoot(1, 10, 1);
        due("a common divisor of both r", x.reckon(2, 0, 0, 1), 1);
        is(0, "2/1*15");
        loadRoot(1, 3, 2);
        is(1, "1/2*6");
        due("a divisor that r and both d have", x.reckon(2, 1, 1, 1), 1);
        is(1, "3/2*1");
        for (int k : OTHERS) {
            due("reckon", x.reckon(0, k, 0, 0), SurdDesk.REFUSED);
            due("reckon", x.reckon(1, 0, k, 0), SurdDesk.REFUSED);
            due("reckon", x.reckon(2, 0, 0, k), SurdDesk.REFUSED);
        }
        for (int op : new int[] {-1, 3, 4, Integer.MIN_VALUE, Integer.MAX_VALUE}) {
            due("reckon", x.reckon(op, 0, 0, 0), SurdDesk.REFUSED);
        }
        is(0, "2/1*15");
    }

    private void promise4Edges() {
        x = new SurdDesk();
        x.load(0, BILLION, 1);
        x.load(1, 1, 1);
        due("n too great", x.reckon(0, 1, 0, 1), SurdDesk.FULL);
        is(1, "1/1*1");
        x.load(2, -1, 1);
        due("n just not too great", x.reckon(1, 3, 2, 2), 0);
        due("10^9 - 1", x.reckon(1, 3, 0, 1), 1);
        due("10^9", x.reckon(0, 3, 3, 1), 1);
        is(3, "1000000000/1*1");
        x.load(0, 1, BILLION);
        x.load(1, 1, BILLION - 1);
        due("d too great", x.reckon(0, 0, 0, 1), SurdDesk.FULL);
        due("d too great", x.reckon(2, 0, 0, 1), SurdDesk.FULL);
        x.load(1, BILLION, 1);
        due("all of it goes before it is too great", x.reckon(2, 0, 0, 1), 1);
        is(0, "1/1*1");
        // n n g / (d d) is beyond a long before its common divisors go.
        x = new SurdDesk();
        plus(0, 999_999_937, 99_999_988, 99_999_989);
        plus(1, 99_999_988, 999_999_937, 99_999_989);
        due("great things that go", x.reckon(2, 2, 0, 1), 1);
        is(2, "99999989/1*1");
        plus(3, BILLION, 1, 99_999_989);
        due("n n g beyond a long", x.reckon(2, 2, 3, 3), SurdDesk.FULL);
        loadRoot(4, 11, 1);
        due("r too great", x.reckon(2, 2, 3, 4), SurdDesk.FULL);
        is(2, "99999989/1*1");
        eightTerms();
        nineBetween();
    }

    private void eightTerms() {
        x = new SurdDesk();
        for (long r : new long[] {2, 3, 5, 7, 11, 13, 17, 19}) {
            plus(0, 1, 1, r);
        }
        due("eight", x.terms(0), 8);
        loadRoot(1, 23, 1);
        due("nine", x.reckon(0, 2, 0, 1), SurdDesk.FULL);
        due("nine", x.reckon(1, 0, 0, 1), SurdDesk.FULL);
        due("eight stay", x.terms(0), 8);
        due("eight times one", x.reckon(2, 2, 0, 1), 8);
        due("eight times eight", x.reckon(2, 2, 0, 0), SurdDesk.FULL);
        due("eight less eight", x.reckon(1, 2, 0, 0), 0);
    }

    /** Register 0 has eight terms from eightTerms; 1 would come before the root of 2 would go. */
    private void nineBetween() {
        loadRoot(7, 2, 1);
        x.load(1, 1, 1);
        x.reckon(1, 1, 1, 7);
        is(1, "1/1*1 -1/1*2");
        due("9 at one time", x.reckon(0, 3, 0, 1), SurdDesk.FULL);
        due("nothing is done", x.terms(3), 0);
        due("the other way round there are 8 at most", x.reckon(0, 3, 1, 0), 8);
        // 9 * 10^8 + 4.5 * 10^8 - 6.75 * 10^8: too great between, though not in the end.
        x = new SurdDesk();
        plus(0, 30000, 1, 1);
        plus(0, 15000, 1, 2);
        plus(1, -15000, 1, 3);
        x.reckon(1, 2, 0, 1);
        x.reckon(0, 3, 0, 1);
        due("too great between", x.reckon(2, 4, 2, 3), SurdDesk.FULL);
        due("nothing is done", x.terms(4), 0);
        x.load(5, 2, 1);
        x.divide(2, 2, 5);
        due("half of it", x.reckon(2, 4, 2, 3), 2);
        is(4, "337500000/1*1 450000000/1*2");
    }

    private void promise5() {
        x = new SurdDesk();
        loadRoot(0, 2, 1);
        loadRoot(1, 3, 1);
        x.reckon(0, 2, 0, 1);
        due("divide", x.divide(3, 2, 1), 2);
        is(3, "1/1*1 1/3*6");
        x.load(4, -3, 4);
        due("by a fraction below 0", x.divide(3, 2, 4), 2);
        is(3, "-4/3*2 -4/3*3");
        plus(5, -3, 4, 6);
        due("by a root below 0", x.divide(3, 0, 5), 1);
        is(3, "-4/9*3");
        due("by itself", x.divide(5, 5, 5), 1);
        is(5, "1/1*1");
        x.load(6, 0, 1);
        due("0 by a number", x.divide(5, 6, 1), 0);
        is(5, "");
        due("by 0", x.divide(5, 0, 6), SurdDesk.NONE);
        due("by two terms", x.divide(5, 0, 2), SurdDesk.NONE);
        for (int k : OTHERS) {
            due("REFUSED comes first", x.divide(k, 0, 6), SurdDesk.REFUSED);
            due("divide", x.divide(0, k, 6), SurdDesk.REFUSED);
            due("divide", x.divide(0, 0, k), SurdDesk.REFUSED);
        }
        promise5Edges();
    }

    private void promise5Edges() {
        x = new SurdDesk();
        plus(0, 11, 1, 99_999_989);
        due("n r too great, also for 0", x.divide(1, 5, 0), SurdDesk.FULL);
        plus(1, 10, 1, 99_999_989);
        due("n r just not too great", x.divide(2, 5, 1), 0);
        due("it goes", x.divide(2, 1, 1), 1);
        is(2, "1/1*1");
        plus(3, 11, 99_999_989, 99_999_989);
        due("lowest terms", x.divide(3, 2, 3), 1);
        is(3, "1/11*99999989");
        x.load(4, 1, BILLION);
        x.load(5, 2, 1);
        due("product too great", x.divide(5, 5, 4), SurdDesk.FULL);
        is(5, "2/1*1");
    }

    private void promise6() {
        x = new SurdDesk();
        loadRoot(0, 2, 1);
        x.load(1, 768398401, 543339720);
        x.load(2, 318281039, 225058681);
        due("just below", x.compare(0, 1), -1);
        due("just above", x.compare(1, 0), 1);
        due("just above", x.compare(0, 2), 1);
        due("just below", x.compare(2, 0), -1);
        due("same", x.compare(0, 0), 0);
        x.load(3, 1, 3);
        x.load(4, 2, 6);
        due("same", x.compare(3, 4), 0);
        due("0 and 0", x.compare(6, 7), 0);
        x.load(4, -1, BILLION);
        due("below 0", x.compare(4, 6), -1);
        due("above a number below 0", x.compare(6, 4), 1);
        x.load(3, -1, BILLION - 1);
        due("both below 0", x.compare(3, 4), -1);
        for (int k : OTHERS) {
            due("compare", x.compare(k, 0), SurdDesk.NONE);
            due("compare", x.compare(0, k), SurdDesk.NONE);
            due("compare", x.compare(k, k), SurdDesk.NONE);
        }
    }

    private void promise7() {
        x = new SurdDesk();
        long[][] fractions = {{7, 2, 3}, {-7, 2, -4}, {-4, 2, -2}, {4, 2, 2}, {0, 1, 0}, {1, BILLION, 0}, {-1, BILLION, -1},
            {BILLION, 1, BILLION}, {-BILLION, 1, -BILLION}};
        for (long[] f : fractions) {
            x.load(0, f[0], f[1]);
            due("floor", x.floor(0), f[2]);
        }
        loadRoot(0, 2, 1);
        due("floor", x.floor(0), 1);
        x.reckon(1, 1, 2, 0);
        due("floor", x.floor(1), -2);
        x = new SurdDesk();
        plus(0, 225058681, 1, 2);
        due("floor", x.floor(0), 318281039);
        x.load(1, 318281039, 1);
        x.reckon(1, 1, 1, 0);
        due("just below 0", x.floor(1), -1);
        loadRoot(1, 10, 1);
        x.load(2, 99_999_989, 1);
        x.root(2, 2);
        x.load(3, BILLION, 1);
        x.reckon(2, 2, 2, 1);
        due("r near 10^9", x.reckon(2, 2, 2, 3), 1);
        is(2, "1000000000/1*999999890");
        due("greatest", x.floor(2), 31622774862431L);
        for (int k : OTHERS) {
            due("floor", x.floor(k), TWO_62);
        }
    }

    private void promise8() {
        x = new SurdDesk();
        loadRoot(0, 2, 1);
        written(0, 80, ROOT_2);
        written(0, 1, "1.4");
        written(0, 0, "1");
        x.reckon(1, 1, 1, 0);
        written(1, 80, "-" + ROOT_2);
        written(1, 0, "-1");
        x.load(2, 2, 3);
        written(2, 4, "0.6666");
        x.load(2, -7, 2);
        written(2, 0, "-3");
        written(2, 3, "-3.500");
        x.load(2, -1, 1000);
        written(2, 2, "-0.00");
        written(2, 0, "-0");
        written(7, 0, "0");
        written(7, 3, "0.000");
        x.load(2, BILLION, 1);
        written(2, 80, "1000000000." + "0".repeat(80));
        x.load(2, -1, BILLION);
        written(2, 80, "-0.000000001" + "0".repeat(71));
        x.load(2, 1, 7);
        written(2, 13, "0.1428571428571");
        x.load(2, 120, 1);
        written(2, 0, "120");
        plus(3, 225058681, 1, 2);
        written(3, 80, "318281039.00000000157093869484320741697112471887513231115463502179161984182654271864448397");
        due("write", x.write(0, 81), SurdDesk.REFUSED);
        due("write", x.write(0, -1), SurdDesk.REFUSED);
        for (int k : OTHERS) {
            due("write", x.write(k, 0), SurdDesk.REFUSED);
            due("write", x.write(0, k < 0 || k > 80 ? k : 81), SurdDesk.REFUSED);
        }
        due("OUT stays", x.octet(-1), 90);
    }

    private void promise9() {
        x = new SurdDesk();
        due("none at first", x.octet(-1), 0);
        due("none at first", x.octet(0), SurdDesk.NONE);
        x.load(0, -5, 2);
        x.write(0, 1);
        int[] due = {4, '-', '2', '.', '5', SurdDesk.NONE};
        for (int k = -1; k < 5; k++) {
            due("octet", x.octet(k), due[k + 1]);
        }
        x.write(1, 0);
        due("shorter", x.octet(-1), 1);
        due("shorter", x.octet(0), '0');
        for (int k : new int[] {1, 2, 3, -2, -3, 97, 127, 128, 1000, Integer.MAX_VALUE, Integer.MIN_VALUE}) {
            due("octet", x.octet(k), SurdDesk.NONE);
        }
    }

    private void promise10() {
        x = new SurdDesk();
        loadRoot(0, 2, 1);
        x.reckon(1, 1, 1, 0);
        for (int n = 0; n <= 24; n++) {
            due("root of 2", x.partial(0, n), n == 0 ? 1 : 2);
            due("less the root of 2", x.partial(1, n), n == 0 ? -2 : n < 3 ? 1 : 2);
        }
        long[] due = {-1, 1, 2, 3};
        x.load(2, -3, 10);
        for (int n = 0; n <= 24; n++) {
            due("fraction", x.partial(2, n), n < due.length ? due[n] : TWO_62);
            due("0", x.partial(7, n), n == 0 ? 0 : TWO_62);
        }
        x.load(2, 1, BILLION);
        due("great", x.partial(2, 1), BILLION);
        // Fibonacci numbers go on the longest.
        x.load(2, 701408733, 433494437);
        for (int n = 0; n <= 24; n++) {
            due("Fibonacci", x.partial(2, n), 1);
        }
        for (int k : OTHERS) {
            due("partial", x.partial(k, 0), TWO_62 + 1);
            due("partial", x.partial(k, 25), TWO_62 + 1);
        }
        for (int n : new int[] {-1, 25, 26, Integer.MIN_VALUE, Integer.MAX_VALUE}) {
            due("partial", x.partial(0, n), TWO_62 + 1);
            due("partial", x.partial(7, n), TWO_62 + 1);
        }
    }

    private void promise10Edges() {
        x = new SurdDesk();
        plus(0, 225058681, 1, 2);
        for (int n = 0; n <= 24; n++) {
            due("where 2^1024 ends", x.partial(0, n), n == 0 ? 318281039 : n <= 17 ? 636562078 : TWO_62 + 2);
        }
        // (577 - 408 root 2) (362 - 209 root 3) (2889 - 1292 root 5) / 999999937
        plus(1, 577, 1, 1);
        plus(1, -408, 1, 2);
        plus(2, 362, 1, 1);
        plus(2, -209, 1, 3);
        plus(3, 2889, 1, 1);
        plus(3, -1292, 1, 5);
        x.load(4, 999_999_937, 1);
        x.reckon(2, 1, 1, 2);
        due("eight terms", x.reckon(2, 1, 1, 3), 8);
        due("divided", x.divide(2, 1, 4), 8);
        long[] due = {0, TWO_62 - 1, 6, 1, 4, 1, 1, 1, 6, 1, 6, 2, 2, 1, 15, 2, 1, 1, 2, 2, 18, 1, 18, 6, 2};
        for (int n = 0; n < due.length; n++) {
            due("above 2^62", x.partial(2, n), due[n]);
        }
        due("nearest", x.nearest(2), 4327556604957678122L);
        x.load(3, 0, 1);
        due("below 0", x.reckon(1, 2, 3, 2), 8);
        due("less it", x.partial(2, 0), -1);
        due("less it", x.partial(2, 1), 1);
        due("less it", x.partial(2, 2), TWO_62 - 1);
        due("less it", x.partial(2, 3), 6);
        due("nearest", x.nearest(2), -4895815431897097686L);
    }

    private void nearestOf(long n, long d) {
        x.load(0, n, d);
        due("nearest " + n + " / " + d, x.nearest(0), Double.doubleToRawLongBits((double) n / (double) d));
    }

    private void promise11() {
        x = new SurdDesk();
        due("0", x.nearest(0), 0);
        long[][] fractions = {{1, 1}, {-1, 1}, {1, 2}, {3, 4}, {1, 3}, {2, 3}, {-1, 3}, {1, 10}, {BILLION, 1}, {1, BILLION},
            {-BILLION, 999_999_999}, {999_999_999, BILLION}, {1 << 29, 1}, {1, 1 << 29}, {(1 << 29) - 1, 1 << 29},
            {22, 7}, {1, 49}, {5, 9}, {123456789, 987654321}, {1, 999_999_999}, {536870911, 999_999_937}};
        for (long[] f : fractions) {
            nearestOf(f[0], f[1]);
        }
        loadRoot(0, 2, 1);
        due("root of 2", x.nearest(0), 4609047870845172685L);
        x.reckon(1, 1, 1, 0);
        due("less it", x.nearest(1), -4614324166009603123L);
        x.load(2, 1, 2);
        loadRoot(3, 5, 4);
        x.reckon(0, 2, 2, 3);
        due("golden section", x.nearest(2), 4609965796441453736L);
        x = new SurdDesk();
        plus(0, 768398401, 1, 1);
        plus(0, -543339720, 1, 2);
        due("near 0", x.nearest(0), 4469360454749830112L);
        loadRoot(0, 99999999, 1);
        due("root of 10^8 - 1", x.nearest(0), 4666723172439855569L);
        for (int k : OTHERS) {
            due("nearest", x.nearest(k), 1);
        }
    }

    private void promise12() {
        x = new SurdDesk();
        x.load(0, -7, 2);
        x.load(1, 1, 3);
        x.load(2, -3, 1);
        x.load(3, 2, 1);
        due("between", x.between(0, 1), 4);
        due("from a whole one on", x.between(2, 1), 4);
        due("up to below a whole one", x.between(2, 3), 5);
        due("up to below a whole one", x.between(0, 3), 5);
        due("up to below 0", x.between(2, 7), 3);
        due("from 0 on", x.between(7, 3), 2);
        due("backwards", x.between(3, 0), 0);
        due("to itself", x.between(3, 3), 0);
        due("to itself", x.between(1, 1), 0);
        loadRoot(4, 2, 1);
        loadRoot(5, 3, 1);
        due("none", x.between(4, 5), 0);
        due("with roots", x.between(4, 3), 0);
        due("with roots", x.between(3, 4), 0);
        due("with roots", x.between(2, 4), 5);
        x.reckon(1, 5, 7, 4);
        due("with roots", x.between(5, 4), 3);
        x.load(0, -BILLION, 1);
        x.load(1, BILLION, 1);
        due("all", x.between(0, 1), 2 * BILLION);
        for (int k : OTHERS) {
            due("between", x.between(k, 0), TWO_62);
            due("between", x.between(0, k), TWO_62);
            due("between", x.between(k, k), TWO_62);
        }
    }

    private void promise13() {
        x = new SurdDesk();
        plus(0, -3, 4, 7);
        plus(0, 5, 6, 1);
        int[][] due = {{5, 6, 1}, {-3, 4, 7}};
        for (int k = 0; k < 2; k++) {
            for (int what = 0; what < 3; what++) {
                due("term", x.term(0, k, what), due[k][what]);
            }
        }
        for (int what : new int[] {-1, 3, 4, Integer.MIN_VALUE, Integer.MAX_VALUE}) {
            due("term", x.term(0, 0, what), SurdDesk.NONE);
        }
        for (int k : new int[] {-1, 2, 7, 8, 9, Integer.MIN_VALUE, Integer.MAX_VALUE}) {
            due("term", x.term(0, k, 0), SurdDesk.NONE);
        }
        due("term of 0", x.term(5, 0, 0), SurdDesk.NONE);
        for (int k : OTHERS) {
            due("term", x.term(k, 0, 0), SurdDesk.NONE);
        }
        x.load(1, -BILLION, 1);
        due("term", x.term(1, 0, 0), -BILLION);
    }

    private void promise14() {
        x = new SurdDesk();
        due("terms", x.terms(0), 0);
        plus(0, 1, 1, 2);
        due("terms", x.terms(0), 1);
        plus(0, 1, 1, 3);
        due("terms", x.terms(0), 2);
        due("others stay", x.terms(1), 0);
        for (int k : OTHERS) {
            due("terms", x.terms(k), SurdDesk.NONE);
        }
    }

    private void promise15() {
        x = new SurdDesk();
        check.due("0 and 0", x.same(0, 7), true);
        plus(0, 1, 2, 2);
        plus(0, 1, 1, 3);
        plus(1, 1, 1, 3);
        check.due("fewer terms", x.same(0, 1), false);
        plus(1, 1, 2, 2);
        check.due("in another order", x.same(0, 1), true);
        plus(1, 1, 1, 2);
        check.due("another n", x.same(0, 1), false);
        loadRoot(2, 2, 1);
        loadRoot(3, 3, 1);
        check.due("another r", x.same(2, 3), false);
        x.load(2, 1, 2);
        x.load(3, 1, 3);
        check.due("another d", x.same(2, 3), false);
        check.due("one and none", x.same(2, 5), false);
        for (int k : OTHERS) {
            check.due("same", x.same(k, 0), false);
            check.due("same", x.same(0, k), false);
            check.due("same", x.same(k, k), false);
        }
    }
}
