import java.math.BigInteger;
import java.util.function.Supplier;

/** Promises 18 to 21: narrow lanes, doubles and floats. */
public final class LanesTest {
    private static final Class<ArithmeticException> ARITHMETIC = ArithmeticException.class;
    private static final BigInteger ONE = BigInteger.ONE;
    private static final BigInteger GREATEST = Counted.GREATEST;

    private static final String[] LANES = {"byte", "short", "char", "int", "long"};
    private static final long[] LEAST = {Byte.MIN_VALUE, Short.MIN_VALUE, Character.MIN_VALUE, Integer.MIN_VALUE, Long.MIN_VALUE};
    private static final long[] MOST = {Byte.MAX_VALUE, Short.MAX_VALUE, Character.MAX_VALUE, Integer.MAX_VALUE, Long.MAX_VALUE};

    private static BigInteger two(int n) {
        return BigInteger.TWO.pow(n);
    }

    private static void fits(int lane, long v) {
        Supplier<Counted> start = () -> Counted.holding(v).full();
        Due.answers(v + " as a " + LANES[lane], start, t -> t.exact(0, lane), v);
    }

    private static void hasNoRoom(int lane, Object v) {
        Due.thrown(v + " as a " + LANES[lane], () -> Counted.holding(v).written(0).fed("12"), t -> t.exact(0, lane), ARITHMETIC);
    }

    /** The ends of each lane, and what is next to them: "it .. has no room". */
    private static void endsOfLanes() {
        for (int lane = 0; lane < 5; lane++) {
            fits(lane, LEAST[lane]);
            fits(lane, LEAST[lane] + 1);
            fits(lane, 0);
            fits(lane, 1);
            fits(lane, MOST[lane] - 1);
            fits(lane, MOST[lane]);
            hasNoRoom(lane, BigInteger.valueOf(LEAST[lane]).subtract(ONE));
            hasNoRoom(lane, BigInteger.valueOf(MOST[lane]).add(ONE));
            // what has only zeros, or a small number, in its lowest limbs
            hasNoRoom(lane, two(64));
            hasNoRoom(lane, two(64).negate());
            hasNoRoom(lane, two(64).add(ONE));
            hasNoRoom(lane, two(96).negate());
            hasNoRoom(lane, GREATEST);
            hasNoRoom(lane, GREATEST.negate());
        }
        for (int lane = 0; lane < 4; lane++) {
            hasNoRoom(lane, two(32));
            hasNoRoom(lane, Long.MIN_VALUE);
            hasNoRoom(lane, Long.MAX_VALUE);
        }
        hasNoRoom(2, -1);
        hasNoRoom(2, Short.MIN_VALUE);
    }

    /** "it is not WHOLE" */
    private static void notWhole() {
        for (int lane = 0; lane < 5; lane++) {
            hasNoRoom(lane, "1/2");
            hasNoRoom(lane, "-7/3");
            hasNoRoom(lane, "1/" + GREATEST);
        }
        Due.answers("6/3 as a byte", () -> Counted.holding("6/3"), t -> t.exact(0, 0), 2);
    }

    /** "BAD (which it may be): lane." */
    private static void noSuchLane() {
        int[] none = {-1, 5, 6, Integer.MIN_VALUE, Integer.MAX_VALUE};
        for (int lane : none) {
            Due.refused("7 in lane " + lane, () -> Counted.holding(7).written(0), t -> t.exact(0, lane), LeastTerms.BAD);
        }
        for (int i : new int[] {0, 1, 3, 4}) {
            fits(i, -1);
        }
    }

    private static void real(Object fraction, double want) {
        Supplier<Counted> start = () -> Counted.holding(fraction);
        Due.answers("real of " + fraction, start, t -> t.real(0), Double.doubleToRawLongBits(want));
    }

    /** "The nearest double (of two the one whose last bit is 0 ..), its 64 bits." */
    private static void promise19() {
        real("0", 0.0);
        real("1", 1.0);
        real("-1", -1.0);
        real("1/2", 0.5);
        real("-1/3", -1.0 / 3);
        real("2/3", 2.0 / 3);
        real("1/10", 0.1);
        real("-987654313/8", -123456789.125);
        real("9007199254740992", 0x1p53);
        // 2^53 + 1 and + 3 stand midway
        real("9007199254740993", 9007199254740992.0);
        real("9007199254740995", 9007199254740996.0);
        real("-9007199254740993", -9007199254740992.0);
        real("-9007199254740995", -9007199254740996.0);
        real("90071992547409930000001/10000000", 9007199254740994.0);
        real("90071992547409929999999/10000000", 9007199254740992.0);
        real(two(400).multiply(two(53).add(ONE)).add(ONE), 0x1p453 + 0x1p401);
        real(two(400).multiply(two(53).add(ONE)).subtract(ONE), 0x1p453);
        // rounds up into the next power of 2
        real("18014398509481983", 18014398509481984.0);
        real(two(54).subtract(ONE) + "/" + two(54), 1.0);
        // the widest sizes are within a double's
        real(GREATEST, 0x1p512);
        real(GREATEST.negate(), -0x1p512);
        real(two(512).subtract(two(459)), Math.nextDown(0x1p512));
        real("-1/" + GREATEST, -0x1p-512);
        real("1/" + two(511), 0x1p-511);
    }

    private static void single(BigInteger n, BigInteger d, float want) {
        String fraction = n + "/" + d;
        Due.answers("single of " + fraction, () -> Counted.holding(fraction), t -> t.single(0), Float.floatToRawIntBits(want));
        String below = n.negate() + "/" + d;
        // 0 has no sign of its own
        int bits = Float.floatToRawIntBits(n.signum() == 0 ? want : -want);
        Due.answers("single of " + below, () -> Counted.holding(below), t -> t.single(0), bits);
    }

    private static BigInteger number(long n) {
        return BigInteger.valueOf(n);
    }

    /** "The nearest float likewise, its 32 bits as an int." */
    private static void nearestFloats() {
        single(number(0), ONE, 0f);
        single(number(1), ONE, 1f);
        single(number(1), number(3), 1f / 3);
        single(number(1), number(10), 0.1f);
        single(number(16777216), ONE, 16777216f);
        single(number(16777217), ONE, 16777216f);
        single(number(16777219), ONE, 16777220f);
        single(number(33554431), ONE, 33554432f);
        single(number(33554435), number(2), 16777218f);
        single(number(33554433), number(2), 16777216f);
        // a double between would round twice
        single(number(16777217).multiply(two(40)).add(ONE), two(40), 16777218f);
        single(number(16777219).multiply(two(40)).subtract(ONE), two(40), 16777218f);
    }

    /** "beyond all of them infinite": the greatest float is 2^128 - 2^104; midway to 2^128 is 2^128 - 2^103. */
    private static void beyondAllFloats() {
        single(two(128).subtract(two(104)), ONE, Float.MAX_VALUE);
        single(two(128).subtract(two(104)).add(ONE), ONE, Float.MAX_VALUE);
        single(two(128).subtract(two(103)).subtract(ONE), ONE, Float.MAX_VALUE);
        single(two(128).subtract(two(103)), ONE, Float.POSITIVE_INFINITY);
        single(two(128), ONE, Float.POSITIVE_INFINITY);
        single(two(128).add(ONE), ONE, Float.POSITIVE_INFINITY);
        single(two(200), ONE, Float.POSITIVE_INFINITY);
        single(GREATEST, ONE, Float.POSITIVE_INFINITY);
    }

    /** "of less than half the least 0 with the sign": the least float is 2^-149. */
    private static void leastFloats() {
        single(ONE, two(126), Float.MIN_NORMAL);
        single(two(24).subtract(ONE), two(150), Float.MIN_NORMAL);
        single(two(23).subtract(ONE), two(149), Float.MIN_NORMAL - Float.MIN_VALUE);
        single(two(24).subtract(number(3)), two(150), Float.MIN_NORMAL - 2 * Float.MIN_VALUE);
        single(number(3), two(149), 3 * Float.MIN_VALUE);
        single(ONE, two(149), Float.MIN_VALUE);
        single(number(3), two(151), Float.MIN_VALUE);
        single(number(3), two(150), 2 * Float.MIN_VALUE);
        single(number(5), two(150), 2 * Float.MIN_VALUE);
        // half of it is midway to 0, whose last bit is 0
        single(two(300).add(ONE), two(450), Float.MIN_VALUE);
        single(ONE, two(150), 0f);
        single(two(300).subtract(ONE), two(450), 0f);
        single(ONE, two(151), 0f);
        single(ONE, two(511), 0f);
        single(ONE, GREATEST, 0f);
    }

    private static void ofReal(double v, Object want) {
        long bits = Double.doubleToRawLongBits(v);
        Due.makes("of the double " + v, Counted::new, t -> t.ofReal(bits), want);
    }

    /** "What a double, by its bits, is: its number (of both zeros 0)." */
    private static void promise21() {
        ofReal(0.0, "0");
        ofReal(-0.0, "0");
        ofReal(1, "1");
        ofReal(-1, "-1");
        ofReal(0.75, "3/4");
        ofReal(-0.75, "-3/4");
        ofReal(6e18, "6000000000000000000");
        ofReal(0.1, "3602879701896397/36028797018963968");
        ofReal(0x1.fffffffffffffp52, two(53).subtract(ONE));
        ofReal(0x1.fffffffffffffp51, two(53).subtract(ONE) + "/2");
        ofReal(-0x1p511, two(511).negate());
        ofReal(0x1p-511, "1/" + two(511));
    }

    /** "ArithmeticException: it is infinite, or no number." The bits next to these are WidthTest's. */
    private static void noDoubles() {
        Supplier<Counted> start = () -> Counted.holding(5).written(0).fed("12");
        long infinite = Double.doubleToRawLongBits(Double.POSITIVE_INFINITY);
        long[] none = {infinite, infinite + 1, infinite | 1L << 51, Long.MAX_VALUE};
        for (long bits : none) {
            Due.thrown("of the bits " + bits, start, t -> t.ofReal(bits), ARITHMETIC);
            Due.thrown("of the bits " + bits + ", below 0", start, t -> t.ofReal(bits | Long.MIN_VALUE), ARITHMETIC);
        }
        Due.refused("of the last double ahead of the infinite", start, t -> t.ofReal(infinite - 1), LeastTerms.WIDE);
        Due.refused("of the same below 0", start, t -> t.ofReal(infinite - 1 | Long.MIN_VALUE), LeastTerms.WIDE);
    }

    /** Each double within the sizes comes back as it was. */
    private static void thereAndBack() {
        double[] values = {1, -1, 0.1, 1e100, -1e-100, 0x1.fffffffffffffp511, -0x1p-511, 0x1.0000000000001p0, 123456.789, 0x1.fffffffffffffp-459};
        for (double v : values) {
            long bits = Double.doubleToRawLongBits(v);
            Due.answers(v + " and back", Counted::new, t -> t.real(t.ofReal(bits)), bits);
        }
    }

    public static void main(String[] args) {
        endsOfLanes();
        notWhole();
        noSuchLane();
        promise19();
        nearestFloats();
        beyondAllFloats();
        leastFloats();
        promise21();
        noDoubles();
        thereAndBack();
        Due.end("LanesTest");
    }
}
