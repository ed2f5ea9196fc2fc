import java.math.BigDecimal;
import java.math.BigInteger;
import java.math.RoundingMode;
import java.util.ArrayList;
import java.util.List;

/** The document once more, reckoned with BigInteger in ways other than the class's where there are any. */
final class Model {
    private static final int BAD = -1, NO = -2, FULL = -3, WIDE = -4, NONE = -5;
    private static final BigInteger ZERO = BigInteger.ZERO, ONE = BigInteger.ONE, TWO = BigInteger.TWO;

    /** n / d, in least terms. */
    record Fraction(BigInteger n, BigInteger d) {
        static Fraction of(BigInteger n, BigInteger d) {
            if (d.signum() == 0) {
                throw new ArithmeticException();
            }
            BigInteger g = n.gcd(d);
            g = d.signum() < 0 ? g.negate() : g;
            return new Fraction(n.divide(g), d.divide(g));
        }

        boolean isWhole() {
            return d.equals(ONE);
        }

        BigInteger floor() {
            BigInteger[] qr = n.divideAndRemainder(d);
            return qr[1].signum() < 0 ? qr[0].subtract(ONE) : qr[0];
        }

        Fraction plus(Fraction y) {
            return of(n.multiply(y.d).add(y.n.multiply(d)), d.multiply(y.d));
        }

        Fraction minus(Fraction y) {
            return plus(new Fraction(y.n.negate(), y.d));
        }

        Fraction times(Fraction y) {
            return of(n.multiply(y.n), d.multiply(y.d));
        }

        Fraction by(Fraction y) {
            return of(n.multiply(y.d), d.multiply(y.n));
        }

        int order(Fraction y) {
            return n.multiply(y.d).compareTo(y.n.multiply(d));
        }

        Fraction size() {
            return new Fraction(n.abs(), d);
        }
    }

    final Fraction[] numbers = new Fraction[24];
    final StringBuilder tape = new StringBuilder();
    String out = "";

    private static Fraction wholeOf(BigInteger n) {
        return new Fraction(n, ONE);
    }

    Fraction get(int a) {
        return a >= 0 && a < 24 ? numbers[a] : null;
    }

    int count() {
        int n = 0;
        for (Fraction f : numbers) {
            n += f == null ? 0 : 1;
        }
        return n;
    }

    private int keep(Fraction f) {
        if (count() == 24) {
            return FULL;
        }
        if (f.n.abs().bitLength() > 512 || f.d.bitLength() > 512) {
            return WIDE;
        }
        int i = 0;
        while (numbers[i] != null) {
            i++;
        }
        numbers[i] = f;
        return i;
    }

    int whole(long v) {
        return keep(wholeOf(BigInteger.valueOf(v)));
    }

    int shifted(int n) {
        if (n < 0) {
            throw new NegativeArraySizeException();
        }
        return keep(wholeOf(ONE.shiftLeft(Math.min(n, 20) * 32)));
    }

    int over(int a, int b) {
        if (get(a) == null || get(b) == null) {
            return BAD;
        }
        return keep(get(a).by(get(b)));
    }

    int apply(int op, int a, int b) {
        Fraction x = get(a);
        Fraction y = get(b);
        if (x == null || y == null || op < 0 || op > 3) {
            return BAD;
        }
        return keep(switch (op) {
            case 0 -> x.plus(y);
            case 1 -> x.minus(y);
            case 2 -> x.times(y);
            default -> x.minus(y.times(wholeOf(x.by(y).floor())));
        });
    }

    int power(int a, int n) {
        Fraction x = get(a);
        if (x == null || n < -512 || n > 512) {
            return BAD;
        }
        Fraction base = n < 0 ? Fraction.of(x.d, x.n) : x;
        return keep(new Fraction(base.n.pow(Math.abs(n)), base.d.pow(Math.abs(n))));
    }

    int near(int a, int how) {
        Fraction x = get(a);
        if (x == null || how < 0 || how > 3) {
            return BAD;
        }
        RoundingMode[] modes = {RoundingMode.FLOOR, RoundingMode.CEILING, RoundingMode.HALF_EVEN, RoundingMode.DOWN};
        return keep(wholeOf(new BigDecimal(x.n).divide(new BigDecimal(x.d), 0, modes[how]).toBigIntegerExact()));
    }

    int common(int a, int b) {
        if (get(a) == null || get(b) == null) {
            return BAD;
        }
        return get(a).isWhole() && get(b).isWhole() ? keep(wholeOf(get(a).n.gcd(get(b).n))) : NO;
    }

    int drop(int a) {
        if (get(a) == null) {
            return BAD;
        }
        numbers[a] = null;
        return count();
    }

    int compare(int a, int b) {
        return get(a) == null || get(b) == null ? BAD : get(a).order(get(b));
    }

    int of(int a, int what) {
        Fraction x = get(a);
        if (x == null || what < 0 || what > 3) {
            return BAD;
        }
        int[] answers = {x.n.signum(), x.isWhole() ? 1 : 0, x.n.abs().bitLength(), x.d.bitLength()};
        return answers[what];
    }

    int limb(int a, int part, int i) {
        if (get(a) == null || part < 0 || part > 1) {
            return BAD;
        }
        BigInteger v = part == 0 ? get(a).n.abs() : get(a).d;
        if (i < 0 || i >= (v.bitLength() + 31) / 32) {
            throw new ArrayIndexOutOfBoundsException();
        }
        return v.shiftRight(32 * i).intValue();
    }

    private static List<BigInteger> chain(Fraction x) {
        List<BigInteger> terms = new ArrayList<>();
        Fraction left = x;
        while (true) {
            BigInteger t = left.floor();
            terms.add(t);
            if (left.isWhole()) {
                return terms;
            }
            left = new Fraction(left.d, left.n.subtract(t.multiply(left.d)));
        }
    }

    int terms(int a) {
        return get(a) == null ? BAD : chain(get(a)).size();
    }

    int term(int a, int i) {
        if (get(a) == null || i < 0 || i >= terms(a)) {
            return BAD;
        }
        return keep(wholeOf(chain(get(a)).get(i)));
    }

    int part(int a, int n) {
        if (get(a) == null || n < 1 || n > terms(a)) {
            return BAD;
        }
        List<BigInteger> terms = chain(get(a));
        Fraction f = wholeOf(terms.get(n - 1));
        for (int i = n - 2; i >= 0; i--) {
            f = wholeOf(terms.get(i)).plus(Fraction.of(f.d, f.n));
        }
        return keep(f);
    }

    int best(int a, long bound) {
        if (get(a) == null || bound < 1) {
            return BAD;
        }
        return keep(bestOf(get(a), BigInteger.valueOf(bound)));
    }

    /** Narrows a pair of neighbours round x, many mediants at a time. */
    private static Fraction bestOf(Fraction x, BigInteger bound) {
        if (x.d.compareTo(bound) <= 0) {
            return x;
        }
        Fraction low = wholeOf(x.floor());
        Fraction high = wholeOf(x.floor().add(ONE));
        while (low.d.add(high.d).compareTo(bound) <= 0) {
            BigInteger k = steps(low, high, x, bound, 1);
            low = new Fraction(low.n.add(k.multiply(high.n)), low.d.add(k.multiply(high.d)));
            BigInteger m = steps(high, low, x, bound, -1);
            high = new Fraction(high.n.add(m.multiply(low.n)), high.d.add(m.multiply(low.d)));
        }
        int order = x.minus(low).order(high.minus(x));
        order = order == 0 ? low.d.compareTo(high.d) : order;
        return order <= 0 ? low : high;
    }

    /** How often from can go towards to without passing x or the bound. */
    private static BigInteger steps(Fraction from, Fraction to, Fraction x, BigInteger bound, int side) {
        BigInteger k = ZERO;
        for (int bit = 70; bit >= 0; bit--) {
            BigInteger more = k.setBit(bit);
            Fraction f = new Fraction(from.n.add(more.multiply(to.n)), from.d.add(more.multiply(to.d)));
            if (f.d.compareTo(bound) <= 0 && side * f.order(x) <= 0) {
                k = more;
            }
        }
        return k;
    }

    long exact(int a, int lane) {
        if (get(a) == null || lane < 0 || lane > 4) {
            return BAD;
        }
        if (!get(a).isWhole()) {
            throw new ArithmeticException();
        }
        BigInteger n = get(a).n;
        if (lane == 2) {
            int v = n.intValueExact();
            if (v != (char) v) {
                throw new ArithmeticException();
            }
            return v;
        }
        return switch (lane) {
            case 0 -> n.byteValueExact();
            case 1 -> n.shortValueExact();
            case 3 -> n.intValueExact();
            default -> n.longValueExact();
        };
    }

    long real(int a) {
        if (get(a) == null) {
            return BAD;
        }
        long bits = nearestBits(get(a).size(), false);
        return get(a).n.signum() < 0 ? bits | Long.MIN_VALUE : bits;
    }

    int single(int a) {
        if (get(a) == null) {
            return BAD;
        }
        int bits = (int) nearestBits(get(a).size(), true);
        return get(a).n.signum() < 0 ? bits | Integer.MIN_VALUE : bits;
    }

    /** Seeks the last one not above x among all bits, and holds its distance against the next one's. */
    private static long nearestBits(Fraction x, boolean isFloat) {
        long infinite = isFloat ? 0x7f800000L : 0x7ff0000000000000L;
        long low = 0;
        long high = infinite;
        while (high - low > 1) {
            long middle = (low + high) >>> 1;
            if (valueOf(middle, isFloat).order(x) <= 0) {
                low = middle;
            } else {
                high = middle;
            }
        }
        int order = x.minus(valueOf(low, isFloat)).order(valueOf(high, isFloat).minus(x));
        return order > 0 || order == 0 && (low & 1) == 1 ? high : low;
    }

    /** What the bits would be if the exponents went on where it is infinite. */
    private static Fraction valueOf(long bits, boolean isFloat) {
        if (isFloat && bits == 0x7f800000L) {
            return wholeOf(TWO.pow(128));
        }
        if (!isFloat && bits == 0x7ff0000000000000L) {
            return wholeOf(TWO.pow(1024));
        }
        BigDecimal v = new BigDecimal(isFloat ? Float.intBitsToFloat((int) bits) : Double.longBitsToDouble(bits));
        return v.scale() > 0 ? new Fraction(v.unscaledValue(), BigInteger.TEN.pow(v.scale())) : wholeOf(v.toBigIntegerExact());
    }

    int ofReal(long bits) {
        double v = Double.longBitsToDouble(bits);
        if (Double.isInfinite(v) || Double.isNaN(v)) {
            throw new ArithmeticException();
        }
        BigDecimal exact = new BigDecimal(v);
        return keep(Fraction.of(exact.scaleByPowerOfTen(exact.scale()).toBigIntegerExact(), BigInteger.TEN.pow(Math.max(exact.scale(), 0))));
    }

    int feed(int b) {
        if (b < 0 || b > 255) {
            return BAD;
        }
        if (tape.length() == 400) {
            return FULL;
        }
        tape.append((char) b);
        return tape.length();
    }

    /** A byte at a time: the state says what was read last. */
    private int fault() {
        char state = ' ';
        int figures = 0;
        for (int i = 0; i < tape.length(); i++) {
            char c = tape.charAt(i);
            boolean isFigure = c >= '0' && c <= '9';
            if (isFigure && figures < 160) {
                figures++;
                state = state == ' ' || state == '-' ? 'n' : state == '/' ? 'd' : state == '.' ? 'f' : state;
            } else if (c == '-' && state == ' ') {
                state = c;
            } else if ((c == '/' || c == '.') && state == 'n') {
                state = c;
                figures = c == '/' ? 0 : figures;
            } else {
                return i;
            }
        }
        return state == 'n' || state == 'd' || state == 'f' ? -1 : tape.length();
    }

    int read() {
        int fault = fault();
        if (fault < 0 && count() == 24) {
            return FULL;
        }
        String s = tape.toString();
        tape.setLength(0);
        if (fault >= 0) {
            return -10 - fault;
        }
        if (s.indexOf('/') >= 0) {
            String[] sides = s.split("/");
            return keep(Fraction.of(new BigInteger(sides[0]), new BigInteger(sides[1])));
        }
        BigDecimal v = new BigDecimal(s);
        return keep(Fraction.of(v.unscaledValue(), BigInteger.TEN.pow(v.scale())));
    }

    int text(int a) {
        if (get(a) == null) {
            return BAD;
        }
        out = get(a).isWhole() ? get(a).n.toString() : get(a).n + "/" + get(a).d;
        return out.length();
    }

    int figures(int a, int n) {
        if (get(a) == null || n < 0 || n > 100) {
            return BAD;
        }
        Fraction x = get(a).size();
        out = (get(a).n.signum() < 0 ? "-" : "") + new BigDecimal(x.n).divide(new BigDecimal(x.d), n, RoundingMode.DOWN).toPlainString();
        return out.length();
    }

    int out(int i) {
        return i >= 0 && i < out.length() ? out.charAt(i) : NONE;
    }

    int period(int a, int what) {
        if (get(a) == null || what < 0 || what > 1) {
            return BAD;
        }
        BigInteger left = get(a).d;
        int ahead = 0;
        // Each figure behind the point takes a factor 2 and a factor 5, as far as there are any.
        for (BigInteger g = left.gcd(BigInteger.TEN); !g.equals(ONE); g = left.gcd(BigInteger.TEN)) {
            left = left.divide(g);
            ahead++;
        }
        if (left.compareTo(BigInteger.valueOf(100000)) > 0) {
            return NO;
        }
        long d = left.longValue();
        int again = d == 1 ? 0 : 1;
        for (long rest = 10 % d; d > 1 && rest != 1; again++) {
            rest = rest * 10 % d;
        }
        return what == 0 ? ahead : again;
    }
}
