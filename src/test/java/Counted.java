import java.math.BigInteger;

/**
 * A LeastTerms whose calls are counted, as the document promises nothing behind an object's 512th call: a
 * test that goes beyond it is itself at fault. It also has what tests need to set an object up and to look
 * at all that it holds.
 */
final class Counted {
    static final int MOST_CALLS = 512;
    static final int PLACES = 24;
    static final BigInteger TWO_512 = BigInteger.TWO.pow(512);
    static final BigInteger GREATEST = TWO_512.subtract(BigInteger.ONE);

    private final LeastTerms x = new LeastTerms();
    private int calls = 0;

    private LeastTerms use() {
        calls++;
        if (calls == MOST_CALLS + 1) {
            Due.tell("a test uses an object for more than 512 calls");
        }
        return x;
    }

    int callsLeft() {
        return MOST_CALLS - calls;
    }

    int whole(long v) {
        return use().whole(v);
    }

    int shifted(int n) {
        return use().shifted(n);
    }

    int over(int a, int b) {
        return use().over(a, b);
    }

    int apply(int op, int a, int b) {
        return use().apply(op, a, b);
    }

    int power(int a, int n) {
        return use().power(a, n);
    }

    int near(int a, int how) {
        return use().near(a, how);
    }

    int common(int a, int b) {
        return use().common(a, b);
    }

    int drop(int a) {
        return use().drop(a);
    }

    int count() {
        return use().count();
    }

    int compare(int a, int b) {
        return use().compare(a, b);
    }

    int of(int a, int what) {
        return use().of(a, what);
    }

    int limb(int a, int part, int i) {
        return use().limb(a, part, i);
    }

    int terms(int a) {
        return use().terms(a);
    }

    int term(int a, int i) {
        return use().term(a, i);
    }

    int part(int a, int n) {
        return use().part(a, n);
    }

    int best(int a, long bound) {
        return use().best(a, bound);
    }

    long exact(int a, int lane) {
        return use().exact(a, lane);
    }

    long real(int a) {
        return use().real(a);
    }

    int single(int a) {
        return use().single(a);
    }

    int ofReal(long bits) {
        return use().ofReal(bits);
    }

    int feed(int b) {
        return use().feed(b);
    }

    int read() {
        return use().read();
    }

    int text(int a) {
        return use().text(a);
    }

    int figures(int a, int n) {
        return use().figures(a, n);
    }

    int out(int i) {
        return use().out(i);
    }

    int period(int a, int what) {
        return use().period(a, what);
    }

    // ---- setting up

    /** A new object with these fractions, "-7/3" or "5", in the places from 0 on; THE TAPE is not used. */
    static Counted holding(Object... fractions) {
        Counted t = new Counted();
        for (int i = 0; i < fractions.length; i++) {
            Due.is("the place of " + fractions[i], t.put(fractions[i].toString()), i);
        }
        return t;
    }

    /** As many more, that there are 24. */
    Counted full() {
        for (int i = count(); i < PLACES; i++) {
            whole(100 + i);
        }
        return this;
    }

    Counted fed(String bytes) {
        for (int i = 0; i < bytes.length(); i++) {
            feed(bytes.charAt(i));
        }
        return this;
    }

    Counted dropped(int... places) {
        for (int a : places) {
            drop(a);
        }
        return this;
    }

    Counted written(int a) {
        text(a);
        return this;
    }

    /** Reckons something else, of which nothing may be left but in rows that are used again. */
    Counted stirred(int sign) {
        int a = whole(sign * 415);
        int b = whole(93);
        int c = over(a, b);
        int part = part(c, 3);
        int best = best(c, 20);
        int term = term(c, 2);
        real(c);
        terms(c);
        compare(a, c);
        int power = power(c, 3);
        return dropped(a, b, c, part, best, term, power);
    }

    int put(String fraction) {
        String[] sides = fraction.split("/");
        return put(new BigInteger(sides[0]), sides.length > 1 ? new BigInteger(sides[1]) : BigInteger.ONE);
    }

    /** Takes the least free place, and some more for a while if the fraction is wide. */
    int put(BigInteger n, BigInteger d) {
        if (d.equals(BigInteger.ONE) && n.bitLength() < 64) {
            return whole(n.longValue());
        }
        int top = putWhole(n);
        int made = top;
        if (!d.equals(BigInteger.ONE)) {
            int bottom = putWhole(d);
            made = over(top, bottom);
            dropped(top, bottom);
        }
        // The places below it are free again by now.
        int copy = power(made, 1);
        if (copy > made) {
            drop(copy);
            return made;
        }
        drop(made);
        return copy;
    }

    /** Pieces of 62 bits, the highest one first. */
    private int putWhole(BigInteger n) {
        int piece = 62;
        int last = Math.max(0, n.abs().bitLength() - 1) / piece;
        int sum = whole(pieceOf(n, last * piece));
        if (last == 0) {
            return sum;
        }
        int base = whole(1L << piece);
        for (int i = last - 1; i >= 0; i--) {
            int product = apply(2, sum, base);
            int more = whole(pieceOf(n, i * piece));
            drop(sum);
            sum = apply(0, product, more);
            dropped(product, more);
        }
        drop(base);
        return sum;
    }

    private static long pieceOf(BigInteger n, int from) {
        return n.signum() * (n.abs().shiftRight(from).longValue() & (1L << 62) - 1);
    }

    // ---- looking

    /** What a NUMBER is, by its sign and its limbs; or what was answered in its stead. */
    String value(int a) {
        if (a < 0) {
            return "refused " + a;
        }
        BigInteger n = size(a, 0);
        BigInteger d = size(a, 1);
        int sign = of(a, 0);
        if (sign != n.signum() && sign != -n.signum()) {
            Due.tell("a NUMBER of the sign " + sign + " is " + n + "/" + d + " by size");
        }
        n = sign < 0 ? n.negate() : n;
        return d.equals(BigInteger.ONE) ? n.toString() : n + "/" + d;
    }

    private BigInteger size(int a, int part) {
        int bits = of(a, 2 + part);
        BigInteger v = BigInteger.ZERO;
        for (int i = (bits + 31) / 32 - 1; i >= 0; i--) {
            v = v.shiftLeft(32).or(BigInteger.valueOf(limb(a, part, i) & 0xffffffffL));
        }
        Due.is("the bits of " + v, bits, v.bitLength());
        return v;
    }

    String outs() {
        StringBuilder s = new StringBuilder();
        int b = out(0);
        while (b != LeastTerms.NONE && s.length() < 400) {
            s.append((char) b);
            b = out(s.length());
        }
        return s.toString();
    }

    /** What text() writes; its answer is how many bytes there are. */
    String textOf(int a) {
        int length = text(a);
        String s = outs();
        Due.is("how many bytes " + s + " has", length, s.length());
        return s;
    }

    String figuresOf(int a, int n) {
        int length = figures(a, n);
        String s = outs();
        Due.is("how many bytes " + s + " has", length, s.length());
        return s;
    }

    /** The NUMBERS, OUT and THE TAPE. To see that, a byte is fed and it is read: the object is spent. */
    String lastState() {
        int held = count();
        StringBuilder s = new StringBuilder(held + " held;");
        for (int a = 0; a < PLACES; a++) {
            if (of(a, 3) != LeastTerms.BAD) {
                s.append(' ').append(a).append(": ").append(value(a)).append(';');
            }
        }
        s.append(" out: ").append(outs()).append("; tape: ").append(feed('5'));
        for (int a = 0; held == PLACES && a < PLACES; a++) {
            drop(a);
        }
        return s.append(", read: ").append(lastRead()).toString();
    }

    private String lastRead() {
        try {
            return value(read());
        } catch (ArithmeticException e) {
            return "thrown";
        }
    }
}
