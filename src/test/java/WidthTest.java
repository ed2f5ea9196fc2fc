import java.math.BigInteger;
import java.util.function.Supplier;
import java.util.function.ToLongFunction;

/**
 * "both below 2 to the 512 by size. WIDE: one of them would not be": N and D, of each call that names WIDE, at
 * the greatest size and just above; what is less in least terms is no matter; and what is told as WIDE
 * changes nothing.
 */
public final class WidthTest {
    private static final BigInteger ONE = BigInteger.ONE;
    private static final BigInteger GREATEST = Counted.GREATEST;
    private static final BigInteger THIRD = GREATEST.divide(BigInteger.valueOf(3));
    private static final BigInteger HALF = two(511);
    // The least number above 2^512 that is a product of two without a common divisor.
    private static final BigInteger FACTOR = BigInteger.valueOf(2424833);
    private static final BigInteger COFACTOR = Counted.TWO_512.add(ONE).divide(FACTOR);

    private static BigInteger two(int n) {
        return BigInteger.TWO.pow(n);
    }

    private static void makes(String what, ToLongFunction<Counted> call, Object want, Object... held) {
        Due.makes(what, () -> Counted.holding(held), call, want);
    }

    private static void wide(String what, ToLongFunction<Counted> call, Object... held) {
        Due.refused(what, () -> Counted.holding(held).written(0).fed("12"), call, LeastTerms.WIDE);
    }

    private static void factors() {
        Due.is("the product of both factors", FACTOR.multiply(COFACTOR).toString(), Counted.TWO_512.add(ONE).toString());
    }

    private static void shifted() {
        Due.makes("shifted(15)", Counted::new, t -> t.shifted(15), two(480));
        Supplier<Counted> start = () -> Counted.holding("-7/3").written(0).fed("12");
        int[] wides = {16, 17, 32, 36, 37, 1 << 20, 1 << 26, 1 << 27, (1 << 27) + 1, Integer.MAX_VALUE};
        for (int n : wides) {
            Due.refused("shifted(" + n + ")", start, t -> t.shifted(n), LeastTerms.WIDE);
        }
    }

    private static void over() {
        makes("N of over, the greatest", t -> t.over(0, 1), GREATEST, THIRD, "1/3");
        makes("N of over, below 0", t -> t.over(0, 1), GREATEST.negate(), THIRD, "-1/3");
        makes("D of over, the greatest", t -> t.over(0, 1), "1/" + GREATEST, 1, GREATEST);
        makes("D of over, by a wide N", t -> t.over(0, 1), GREATEST + "/" + HALF, GREATEST, HALF);
        makes("over, less in least terms", t -> t.over(0, 1), GREATEST, GREATEST + "/2", "1/2");
        makes("over, 1 in least terms", t -> t.over(0, 1), 1, HALF + "/" + GREATEST, HALF + "/" + GREATEST);
        wide("N of over, 2^512", t -> t.over(0, 1), HALF, "1/2");
        wide("N of over, -2^512", t -> t.over(0, 1), HALF, "-1/2");
        wide("N of over, 2^512 + 1", t -> t.over(0, 1), FACTOR, "1/" + COFACTOR);
        wide("D of over, 2^512", t -> t.over(0, 1), "-1/2", HALF);
        wide("D of over, 2^512 + 1", t -> t.over(0, 1), "1/" + FACTOR, COFACTOR);
        wide("N and D of over", t -> t.over(0, 1), GREATEST + "/2", "2/" + GREATEST);
    }

    private static void sums() {
        makes("N of +, the greatest", t -> t.apply(0, 0, 1), GREATEST, HALF, HALF.subtract(ONE));
        makes("N of +, below 0", t -> t.apply(0, 0, 1), GREATEST.negate(), HALF.negate(), ONE.subtract(HALF));
        makes("D of +, the greatest", t -> t.apply(0, 0, 1), THIRD.add(BigInteger.valueOf(3)) + "/" + GREATEST, "1/3", "1/" + THIRD);
        makes("+, less in least terms", t -> t.apply(0, 0, 1), "2/" + GREATEST, "1/" + GREATEST, "1/" + GREATEST);
        wide("N of +, 2^512", t -> t.apply(0, 0, 1), GREATEST, 1);
        wide("N of +, 2^512 of the same", t -> t.apply(0, 0, 0), HALF);
        wide("N of +, -2^512", t -> t.apply(0, 0, 1), HALF.negate(), HALF.negate());
        wide("N of + with a fraction", t -> t.apply(0, 0, 1), GREATEST, "1/2");
        wide("D of +, 2^512 + 1", t -> t.apply(0, 0, 1), "1/" + FACTOR, "1/" + COFACTOR);
        wide("N and D of +", t -> t.apply(0, 0, 1), "1/" + GREATEST, "1/" + HALF);
        makes("N of -, the greatest", t -> t.apply(1, 0, 1), GREATEST, HALF, ONE.subtract(HALF));
        makes("N of -, below 0", t -> t.apply(1, 0, 1), GREATEST.negate(), ONE.subtract(HALF), HALF);
        makes("D of -, the greatest", t -> t.apply(1, 0, 1), BigInteger.valueOf(3).subtract(THIRD) + "/" + GREATEST, "1/" + THIRD, "1/3");
        makes("-, 0 of wide ones", t -> t.apply(1, 0, 0), 0, "-" + GREATEST + "/" + HALF);
        wide("N of -, 2^512", t -> t.apply(1, 0, 1), GREATEST, -1);
        wide("N of -, -2^512", t -> t.apply(1, 0, 1), GREATEST.negate(), 1);
        wide("D of -, 2^512 + 1", t -> t.apply(1, 0, 1), "1/" + FACTOR, "1/" + COFACTOR);
    }

    private static void products() {
        makes("N of times, the greatest", t -> t.apply(2, 0, 1), GREATEST, 3, THIRD);
        makes("N of times, below 0", t -> t.apply(2, 0, 1), GREATEST.negate(), -3, THIRD);
        makes("D of times, the greatest", t -> t.apply(2, 0, 1), "1/" + GREATEST, "1/3", "1/" + THIRD);
        makes("times, less in least terms", t -> t.apply(2, 0, 1), -1, GREATEST + "/" + HALF, "-" + HALF + "/" + GREATEST);
        makes("times 0", t -> t.apply(2, 0, 1), 0, GREATEST.negate(), 0);
        wide("N of times, 2^512", t -> t.apply(2, 0, 0), two(256));
        wide("N of times, -2^512", t -> t.apply(2, 0, 1), HALF, -2);
        wide("N of times, 2^512 + 1", t -> t.apply(2, 0, 1), FACTOR, COFACTOR);
        wide("N of times, the widest", t -> t.apply(2, 0, 0), GREATEST);
        wide("D of times, 2^512", t -> t.apply(2, 0, 0), "-1/" + two(256));
        wide("D of times, 2^512 + 1", t -> t.apply(2, 0, 1), "1/" + FACTOR, "1/" + COFACTOR);
        wide("D of times, the widest", t -> t.apply(2, 0, 0), "1/" + GREATEST);
    }

    private static void rests() {
        makes("N of the rest, wide", t -> t.apply(3, 0, 1), GREATEST.subtract(ONE), -1, GREATEST);
        makes("N of the rest, wide, below 0", t -> t.apply(3, 0, 1), ONE.subtract(GREATEST), 1, GREATEST.negate());
        makes("N of the rest, the greatest", t -> t.apply(3, 0, 1), GREATEST + "/2", "-1/2", HALF);
        BigInteger left = THIRD.mod(BigInteger.valueOf(3));
        makes("D of the rest, the greatest", t -> t.apply(3, 0, 1), left + "/" + GREATEST, "1/3", "1/" + THIRD);
        makes("the rest, 0 by a wide quotient", t -> t.apply(3, 0, 1), 0, GREATEST, "1/" + GREATEST);
        makes("the rest, less in least terms", t -> t.apply(3, 0, 1), "1/" + GREATEST, "1/" + GREATEST, "2/" + GREATEST);
        wide("N of the rest", t -> t.apply(3, 0, 1), "-1/3", GREATEST);
        wide("N of the rest, below 0", t -> t.apply(3, 0, 1), "1/3", GREATEST.negate());
        wide("D of the rest, 2^512 + 1", t -> t.apply(3, 0, 1), "1/" + FACTOR, "1/" + COFACTOR);
    }

    private static void powers() {
        BigInteger three = BigInteger.valueOf(3);
        makes("N of a power, 2^511", t -> t.power(0, 511), HALF, 2);
        makes("N of a power, -2^511", t -> t.power(0, 511), HALF.negate(), -2);
        makes("N of a power, the greatest", t -> t.power(0, 1), GREATEST, GREATEST);
        makes("N of a power below 0, the greatest", t -> t.power(0, -1), GREATEST.negate(), "-1/" + GREATEST);
        makes("D of a power, the greatest", t -> t.power(0, 1), "1/" + GREATEST, "1/" + GREATEST);
        makes("D of a power below 0, the greatest", t -> t.power(0, -1), "-1/" + GREATEST, GREATEST.negate());
        makes("D of a power, 2^511", t -> t.power(0, -511), "1/" + HALF, 2);
        makes("N of a power, 3^323", t -> t.power(0, 323), three.pow(323).negate() + "/" + two(323), "-3/2");
        makes("D of a power, 3^323", t -> t.power(0, -323), two(323).negate() + "/" + three.pow(323), "-3/2");
        makes("a square just below", t -> t.power(0, 2), two(256).subtract(ONE).pow(2), two(256).subtract(ONE));
        makes("1 of the widest", t -> t.power(0, 0), 1, GREATEST + "/" + HALF);
        wide("N of a power, 2^512", t -> t.power(0, 512), 2);
        wide("N of a power, 2^512 of -2", t -> t.power(0, 512), -2);
        wide("N of a power below 0, 2^512", t -> t.power(0, -512), "1/2");
        wide("D of a power, 2^512", t -> t.power(0, 512), "1/2");
        wide("D of a power below 0, 2^512", t -> t.power(0, -512), 2);
        wide("N of a power, 3^324", t -> t.power(0, 324), "-3/2");
        wide("D of a power, 3^324", t -> t.power(0, 324), "2/3");
        wide("N of a power, the square at 2^512", t -> t.power(0, 2), two(256));
        wide("N of a power, the widest", t -> t.power(0, 512), GREATEST);
        wide("N and D of a power, the widest", t -> t.power(0, -512), GREATEST + "/" + HALF);
    }

    private static long bits(double v) {
        return Double.doubleToRawLongBits(v);
    }

    private static void reals() {
        makes("N of a double, the last", t -> t.ofReal(bits(Math.nextDown(0x1p512))), two(512).subtract(two(459)));
        makes("N of a double, the last below 0", t -> t.ofReal(bits(-Math.nextDown(0x1p512))), two(459).subtract(two(512)));
        makes("D of a double, the last", t -> t.ofReal(bits(-0x1p-511)), "-1/" + HALF);
        makes("D of a double, with more bits", t -> t.ofReal(bits(0x1.fffffffffffffp-459)), two(53).subtract(ONE) + "/" + HALF);
        makes("D of a double, less in least terms", t -> t.ofReal(bits(0x6p-512)), "3/" + HALF);
        wide("N of a double, 2^512", t -> t.ofReal(bits(0x1p512)), 5);
        wide("N of a double, -2^512", t -> t.ofReal(bits(-0x1p512)), 5);
        wide("N of the greatest double", t -> t.ofReal(bits(Double.MAX_VALUE)), 5);
        wide("D of a double, 2^512", t -> t.ofReal(bits(-0x1p-512)), 5);
        wide("D of a double, 2^512 by 3", t -> t.ofReal(bits(0x3p-512)), 5);
        wide("D of a double, with more bits", t -> t.ofReal(bits(0x1.fffffffffffffp-460)), 5);
        wide("D of the least normal double", t -> t.ofReal(bits(Double.MIN_NORMAL)), 5);
        wide("D of the least double", t -> t.ofReal(1L), 5);
    }

    private static void reads(String bytes, Object want) {
        Due.makes("read of " + bytes, () -> new Counted().fed(bytes), t -> t.read(), want);
    }

    /** THE TAPE is empty then; nothing else is changed. */
    private static void wideToRead(String bytes) {
        Supplier<Counted> end = () -> Counted.holding("-7/3").written(0);
        Due.refusedInto("read of " + bytes, () -> end.get().fed(bytes), t -> t.read(), LeastTerms.WIDE, end);
    }

    private static void readings() {
        BigInteger ten = BigInteger.TEN;
        String nines = "9".repeat(160);
        reads(GREATEST.toString(), GREATEST);
        reads("-" + GREATEST, GREATEST.negate());
        reads("1/" + GREATEST, "1/" + GREATEST);
        reads("2/" + Counted.TWO_512, "1/" + HALF);
        reads(Counted.TWO_512 + "/2", HALF);
        reads(nines + "/" + nines, 1);
        reads("0/" + nines, 0);
        reads("0." + "0".repeat(153) + "1", "1/" + ten.pow(154));
        reads("0." + "0".repeat(154) + "8", "1/" + ten.pow(155).divide(BigInteger.valueOf(8)));
        reads("-" + ten.pow(154) + ".00000", ten.pow(154).negate());
        wideToRead(Counted.TWO_512.toString());
        wideToRead("-" + Counted.TWO_512);
        wideToRead("1/" + Counted.TWO_512);
        wideToRead("3/" + Counted.TWO_512);
        wideToRead("-" + nines);
        wideToRead("1/" + nines);
        wideToRead("0." + "0".repeat(154) + "1");
        wideToRead("0." + "0".repeat(154) + "5");
        wideToRead("0." + "0".repeat(158) + "5");
        wideToRead(ten.pow(154) + ".50000");
    }

    public static void main(String[] args) {
        factors();
        shifted();
        over();
        sums();
        products();
        rests();
        powers();
        reals();
        readings();
        Due.end("WidthTest");
    }
}
