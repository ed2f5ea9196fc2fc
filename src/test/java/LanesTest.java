import java.math.BigInteger;

/** Promises 18 to 21: narrow lanes, doubles and floats. */
public final class LanesTest {
    private static final BigInteger GREATEST = BigInteger.TWO.pow(512).subtract(BigInteger.ONE);

    private static void promise18() {
        LeastTerms x = new LeastTerms();
        long[] least = {Byte.MIN_VALUE, Short.MIN_VALUE, Character.MIN_VALUE, Integer.MIN_VALUE, Long.MIN_VALUE};
        long[] greatest = {Byte.MAX_VALUE, Short.MAX_VALUE, Character.MAX_VALUE, Integer.MAX_VALUE, Long.MAX_VALUE};
        for (int i = 0; i < 5; i++) {
            int lane = i;
            int a = x.whole(least[i]);
            int b = x.whole(greatest[i]);
            int one = x.whole(1);
            int below = x.apply(1, a, one);
            int above = x.apply(0, b, one);
            Due.is("the least of lane " + i, x.exact(a, i), least[i]);
            Due.is("the greatest of lane " + i, x.exact(b, i), greatest[i]);
            Due.is("1 in lane " + i, x.exact(one, i), 1);
            Due.thrown(x, "below lane " + i, () -> x.exact(below, lane), ArithmeticException.class);
            Due.thrown(x, "above lane " + i, () -> x.exact(above, lane), ArithmeticException.class);
            for (int place = 0; place < 5; place++) {
                x.drop(place);
            }
        }
        int half = Due.read(x, "1/2");
        int wide = Due.read(x, GREATEST.toString());
        int shifted = x.shifted(3);
        int zero = x.whole(0);
        Due.is("0 as a long", x.exact(zero, 4), 0);
        Due.is("0 as a char", x.exact(zero, 2), 0);
        Due.thrown(x, "a half", () -> x.exact(half, 4), ArithmeticException.class);
        Due.thrown(x, "a wide one", () -> x.exact(wide, 4), ArithmeticException.class);
        Due.thrown(x, "2^96, whose low limbs are 0", () -> x.exact(shifted, 0), ArithmeticException.class);
        Due.refused(x, "lane 5", () -> x.exact(half, 5), LeastTerms.BAD);
        Due.refused(x, "lane -1", () -> x.exact(zero, -1), LeastTerms.BAD);
        Due.refused(x, "exact of none", () -> x.exact(9, 0), LeastTerms.BAD);
    }

    private static void real(String fraction, double want) {
        LeastTerms x = new LeastTerms();
        int a = Due.read(x, fraction);
        Due.is("real of " + fraction, x.real(a), Double.doubleToRawLongBits(want));
    }

    private static void promise19() {
        real("0", 0.0);
        real("1", 1.0);
        real("-1/3", -1.0 / 3);
        real("2/3", 2.0 / 3);
        real("0.1", 0.1);
        real("-123456789.125", -123456789.125);
        // 2^53 + 1 and + 3 stand midway
        real("9007199254740993", 9007199254740992.0);
        real("9007199254740995", 9007199254740996.0);
        real("-9007199254740993", -9007199254740992.0);
        real("90071992547409930000001/10000000", 9007199254740994.0);
        real("90071992547409929999999/10000000", 9007199254740992.0);
        // rounds up into the next power of 2
        real("18014398509481983", 18014398509481984.0);
        real(GREATEST.toString(), 0x1p512);
        real("-1/" + GREATEST, -0x1p-512);
        real(BigInteger.TWO.pow(511) + "/" + BigInteger.valueOf(3).pow(323), new java.math.BigDecimal(BigInteger.TWO.pow(511)).divide(new java.math.BigDecimal(BigInteger.valueOf(3).pow(323)), new java.math.MathContext(60)).doubleValue());
        LeastTerms x = new LeastTerms();
        Due.refused(x, "real of none", () -> x.real(0), LeastTerms.BAD);
    }

    private static void single(BigInteger n, BigInteger d, float want) {
        LeastTerms x = new LeastTerms();
        int a = Due.read(x, n + "/" + d);
        Due.is("single of " + n + "/" + d, x.single(a), Float.floatToRawIntBits(want));
    }

    private static BigInteger two(int n) {
        return BigInteger.TWO.pow(n);
    }

    private static BigInteger number(long n) {
        return BigInteger.valueOf(n);
    }

    private static void promise20() {
        single(number(0), number(1), 0f);
        single(number(-1), number(3), -1f / 3);
        single(number(16777217), number(1), 16777216f);
        single(number(16777219), number(1), 16777220f);
        single(number(33554431), number(1), 33554432f);
        // the greatest float is 2^128 - 2^104; midway to 2^128 is 2^128 - 2^103
        single(two(128).subtract(two(104)), number(1), Float.MAX_VALUE);
        single(two(128).subtract(two(103)).subtract(number(1)), number(1), Float.MAX_VALUE);
        single(two(128).subtract(two(103)), number(1), Float.POSITIVE_INFINITY);
        single(two(128), number(-1).negate(), Float.POSITIVE_INFINITY);
        single(GREATEST.negate(), number(1), Float.NEGATIVE_INFINITY);
        // below the least normal one
        single(number(1), two(126), Float.MIN_NORMAL);
        single(two(24).subtract(number(1)), two(150), Float.MIN_NORMAL);
        single(two(24).subtract(number(3)), two(150), Float.MIN_NORMAL - 2 * Float.MIN_VALUE);
        single(number(3), two(149), 3 * Float.MIN_VALUE);
        single(number(1), two(149), Float.MIN_VALUE);
        single(number(-3), two(151), -Float.MIN_VALUE);
        single(number(3), two(150), 2 * Float.MIN_VALUE);
        single(number(1), two(150), 0f);
        single(number(-1), two(150), -0f);
        single(two(300).add(number(1)), two(450), Float.MIN_VALUE);
        single(number(-1), GREATEST, -0f);
        LeastTerms x = new LeastTerms();
        Due.refused(x, "single of none", () -> x.single(0), LeastTerms.BAD);
    }

    private static String ofReal(double v) {
        LeastTerms x = new LeastTerms();
        return Due.made(x, x.ofReal(Double.doubleToRawLongBits(v)));
    }

    private static void promise21() {
        Due.is("of 0.0", ofReal(0.0), "0");
        Due.is("of -0.0", ofReal(-0.0), "0");
        Due.is("of 1", ofReal(1), "1");
        Due.is("of -0.75", ofReal(-0.75), "-3/4");
        Due.is("of 6e18", ofReal(6e18), "6000000000000000000");
        Due.is("of 0.1", ofReal(0.1), "3602879701896397/36028797018963968");
        Due.is("of 2^511", ofReal(0x1p511), two(511).toString());
        Due.is("of the last below 2^512", ofReal(Math.nextDown(0x1p512)), two(512).subtract(two(459)).toString());
        Due.is("of 2^512", ofReal(0x1p512), "refused -4");
        Due.is("of 2^-511", ofReal(-0x1p-511), "-1/" + two(511));
        Due.is("of 2^-512", ofReal(0x1p-512), "refused -4");
        Due.is("of 3 * 2^-512", ofReal(0x3p-512), "refused -4");
        Due.is("of 6 * 2^-512", ofReal(0x6p-512), "3/" + two(511));
        Due.is("of the least one", ofReal(Double.MIN_VALUE), "refused -4");
        Due.is("of the greatest one", ofReal(-Double.MAX_VALUE), "refused -4");
        LeastTerms x = new LeastTerms();
        x.whole(5);
        double[] none = {Double.POSITIVE_INFINITY, Double.NEGATIVE_INFINITY, Double.NaN};
        for (double v : none) {
            Due.thrown(x, "of " + v, () -> x.ofReal(Double.doubleToRawLongBits(v)), ArithmeticException.class);
        }
        Due.thrown(x, "of all bits", () -> x.ofReal(-1L), ArithmeticException.class);
        Due.refused(x, "of 2^512", () -> x.ofReal(Double.doubleToRawLongBits(0x1p512)), LeastTerms.WIDE);
        Due.fill(x);
        Due.refused(x, "ofReal with 24", () -> x.ofReal(1L), LeastTerms.FULL);
        Due.thrown(x, "of all bits with 24", () -> x.ofReal(-1L), ArithmeticException.class);
    }

    public static void main(String[] args) {
        promise18();
        promise19();
        promise20();
        promise21();
        Due.end("LanesTest");
    }
}
