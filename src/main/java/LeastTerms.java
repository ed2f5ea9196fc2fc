/**
 * Fractions of wide whole numbers, always in least terms.
 *
 * <p>An object holds up to 24 NUMBERS, a TAPE of bytes to read from and a row OUT of bytes that were
 * written. All rows are made with the object and used again by every call: a call makes nothing.
 */
public final class LeastTerms {
    public static final int BAD = -1, NO = -2, FULL = -3, WIDE = -4, NONE = -5;

    private static final int PLACES = 24;
    private static final int NUMBER_BITS = 512;
    private static final int NUMBER_LIMBS = 16;
    // The widest rows of any call are of 1075 bits: the least double's D, before it is known to be WIDE.
    private static final int WORK_LIMBS = 36;
    private static final long LIMB = 0xffffffffL;
    private static final long TOP_BIT = 1L << 63;
    // Euclid's way takes less than 1.5 steps a bit of the lesser number.
    private static final int MOST_STEPS = 4000;

    private static final int MOST_POWER = 512;
    private static final int TAPE_BYTES = 400;
    private static final int MOST_READ_FIGURES = 160;
    private static final int FIRST_FAULT = -10;
    // '-', 155 figures, '/', 155 figures.
    private static final int OUT_BYTES = 320;
    private static final int MOST_FIGURES = 200;
    private static final int MOST_CUT_FIGURES = 100;
    private static final int GREATEST_PERIOD_DIVISOR = 100000;

    // byte, short, char, int, long
    private static final long[] LANE_LEAST = {-128L, -32768L, 0L, -2147483648L, -9223372036854775808L};
    private static final long[] LANE_GREATEST = {127L, 32767L, 65535L, 2147483647L, 9223372036854775807L};

    private static final int DOUBLE_PRECISION = 53;
    private static final int DOUBLE_LEAST = -1074;
    private static final long DOUBLE_INFINITE = 0x7ff0000000000000L;
    private static final long DOUBLE_FRACTION = 0x000fffffffffffffL;
    private static final int DOUBLE_EXPONENTS = 0x7ff;
    private static final int FLOAT_PRECISION = 24;
    private static final int FLOAT_LEAST = -149;
    private static final long FLOAT_INFINITE = 0x7f800000L;
    private static final long FLOAT_SIGN = 0x80000000L;

    private final Ratio[] numbers;
    private final boolean[] taken;
    private int held;
    private final Bench bench;
    private final Chain chain;
    private final Tape tape;
    private final Sheet sheet;

    public LeastTerms() {
        numbers = new Ratio[PLACES];
        taken = new boolean[PLACES];
        for (int i = 0; i < PLACES; i++) {
            numbers[i] = new Ratio(NUMBER_LIMBS);
        }
        held = 0;
        bench = new Bench();
        chain = new Chain();
        tape = new Tape();
        sheet = new Sheet();
    }

    // ---- numbers

    public int whole(long v) {
        if (isFull()) {
            return FULL;
        }
        bench.result.become(v < 0 ? -1 : 1, v < 0 ? -v : v);
        return keep();
    }

    public int shifted(int n) throws NegativeArraySizeException {
        if (n < 0) {
            throw new NegativeArraySizeException("a row of less than no limbs");
        }
        if (isFull()) {
            return FULL;
        }
        if (n >= NUMBER_LIMBS) {
            return WIDE;
        }
        bench.result.become(1, 1);
        bench.result.top.shiftLeft(32 * n);
        return keep();
    }

    public int over(int a, int b) throws ArithmeticException {
        Ratio x = find(a);
        Ratio y = find(b);
        if (x == null || y == null) {
            return BAD;
        }
        if (y.sign == 0) {
            throw new ArithmeticException("the divisor is 0");
        }
        if (isFull()) {
            return FULL;
        }
        bench.quotientOf(x, y);
        return keep();
    }

    public int apply(int op, int a, int b) throws ArithmeticException {
        Ratio x = find(a);
        Ratio y = find(b);
        if (x == null || y == null || op < 0 || op > 3) {
            return BAD;
        }
        if (op == 3 && y.sign == 0) {
            throw new ArithmeticException("a rest by 0");
        }
        if (isFull()) {
            return FULL;
        }
        switch (op) {
            case 0:
                bench.sumOf(x, y, y.sign);
                break;
            case 1:
                bench.sumOf(x, y, -y.sign);
                break;
            case 2:
                bench.productOf(x, y);
                break;
            default:
                bench.restOf(x, y);
                break;
        }
        return keep();
    }

    public int power(int a, int n) throws ArithmeticException {
        Ratio x = find(a);
        if (x == null || n < -MOST_POWER || n > MOST_POWER) {
            return BAD;
        }
        if (n < 0 && x.sign == 0) {
            throw new ArithmeticException("0 to a power below 0");
        }
        if (isFull()) {
            return FULL;
        }
        bench.powerOf(x, n);
        return keep();
    }

    public int near(int a, int how) {
        Ratio x = find(a);
        if (x == null || how < 0 || how > 3) {
            return BAD;
        }
        if (isFull()) {
            return FULL;
        }
        bench.wholeNear(x, how);
        return keep();
    }

    public int common(int a, int b) {
        Ratio x = find(a);
        Ratio y = find(b);
        if (x == null || y == null) {
            return BAD;
        }
        if (!x.isWhole() || !y.isWhole()) {
            return NO;
        }
        if (isFull()) {
            return FULL;
        }
        bench.result.becomeWhole(1, bench.greatestDivisor(x.top, y.top));
        return keep();
    }

    public int drop(int a) {
        if (find(a) == null) {
            return BAD;
        }
        taken[a] = false;
        held--;
        return held;
    }

    public int count() {
        return held;
    }

    public int compare(int a, int b) {
        Ratio x = find(a);
        Ratio y = find(b);
        if (x == null || y == null) {
            return BAD;
        }
        return bench.orderOf(x, y);
    }

    public int of(int a, int what) {
        Ratio x = find(a);
        if (x == null) {
            return BAD;
        }
        switch (what) {
            case 0:
                return x.sign;
            case 1:
                return x.isWhole() ? 1 : 0;
            case 2:
                return x.top.bits();
            case 3:
                return x.bottom.bits();
            default:
                return BAD;
        }
    }

    public int limb(int a, int part, int i) throws ArrayIndexOutOfBoundsException {
        Ratio x = find(a);
        if (x == null || part < 0 || part > 1) {
            return BAD;
        }
        Wide w = part == 0 ? x.top : x.bottom;
        if (i < 0 || i >= w.used) {
            throw new ArrayIndexOutOfBoundsException("no such limb");
        }
        return (int) w.limbAt(i);
    }

    // ---- chains

    public int terms(int a) {
        Ratio x = find(a);
        if (x == null) {
            return BAD;
        }
        chain.begin(x);
        return chain.length();
    }

    public int term(int a, int i) {
        Ratio x = find(a);
        if (x == null) {
            return BAD;
        }
        chain.begin(x);
        if (!chain.goTo(i)) {
            return BAD;
        }
        if (isFull()) {
            return FULL;
        }
        if (i == 0) {
            bench.result.becomeWhole(chain.headSign, chain.head);
        } else {
            bench.result.becomeWhole(1, chain.link);
        }
        return keep();
    }

    public int part(int a, int n) {
        Ratio x = find(a);
        if (x == null) {
            return BAD;
        }
        chain.begin(x);
        if (!chain.gather(n)) {
            return BAD;
        }
        if (isFull()) {
            return FULL;
        }
        chain.tell(bench.result);
        return keep();
    }

    public int best(int a, long bound) {
        Ratio x = find(a);
        if (x == null || bound < 1) {
            return BAD;
        }
        if (isFull()) {
            return FULL;
        }
        if (x.bottom.isAbove(bound)) {
            chain.begin(x);
            chain.seekNearest(x.bottom, bound);
            chain.tell(bench.result);
        } else {
            bench.result.copy(x);
        }
        return keep();
    }

    // ---- lanes

    public long exact(int a, int lane) throws ArithmeticException {
        Ratio x = find(a);
        if (x == null || lane < 0 || lane >= LANE_LEAST.length || lane >= LANE_GREATEST.length) {
            return BAD;
        }
        if (!x.isWhole() || !x.fitsLong()) {
            throw new ArithmeticException("it is no whole number of a lane");
        }
        long v = x.sign < 0 ? -x.top.low() : x.top.low();
        if (v < LANE_LEAST[lane] || v > LANE_GREATEST[lane]) {
            throw new ArithmeticException("it has no room in the lane");
        }
        return v;
    }

    public long real(int a) {
        Ratio x = find(a);
        if (x == null) {
            return BAD;
        }
        long bits = bench.nearestBits(x, DOUBLE_PRECISION, DOUBLE_LEAST, DOUBLE_INFINITE);
        return x.sign < 0 ? bits | TOP_BIT : bits;
    }

    public int single(int a) {
        Ratio x = find(a);
        if (x == null) {
            return BAD;
        }
        long bits = bench.nearestBits(x, FLOAT_PRECISION, FLOAT_LEAST, FLOAT_INFINITE);
        return (int) (x.sign < 0 ? bits | FLOAT_SIGN : bits);
    }

    public int ofReal(long bits) throws ArithmeticException {
        int field = (int) (bits >>> 52) & DOUBLE_EXPONENTS;
        if (field == DOUBLE_EXPONENTS) {
            throw new ArithmeticException("an infinite double, or none");
        }
        if (isFull()) {
            return FULL;
        }
        long fraction = bits & DOUBLE_FRACTION;
        long size = field == 0 ? fraction : fraction | (DOUBLE_FRACTION + 1);
        int exponent = Math.max(field, 1) - 1 + DOUBLE_LEAST;
        bench.result.become(bits < 0 ? -1 : 1, size);
        bench.result.top.shiftLeft(exponent);
        bench.result.bottom.shiftLeft(-exponent);
        return keep();
    }

    // ---- figures

    public int feed(int b) {
        if (b < 0 || b > 255) {
            return BAD;
        }
        return tape.add(b) ? tape.length : FULL;
    }

    public int read() throws ArithmeticException {
        int fault = tape.findFault();
        if (fault >= 0) {
            tape.clear();
            return FIRST_FAULT - fault;
        }
        if (isFull()) {
            return FULL;
        }
        tape.tell(bench.result);
        tape.clear();
        if (bench.result.bottom.isZero()) {
            throw new ArithmeticException("0 is behind the stroke");
        }
        return keep();
    }

    public int text(int a) {
        Ratio x = find(a);
        if (x == null) {
            return BAD;
        }
        sheet.begin(x.sign < 0);
        sheet.addSize(x.top);
        if (!x.isWhole()) {
            sheet.add('/');
            sheet.addSize(x.bottom);
        }
        return sheet.length;
    }

    public int figures(int a, int n) {
        Ratio x = find(a);
        if (x == null || n < 0 || n > MOST_CUT_FIGURES) {
            return BAD;
        }
        sheet.begin(x.sign < 0);
        sheet.addCut(x, n);
        return sheet.length;
    }

    public int out(int i) {
        return sheet.at(i);
    }

    public int period(int a, int what) {
        Ratio x = find(a);
        if (x == null || what < 0 || what > 1) {
            return BAD;
        }
        Wide rest = bench.left;
        rest.copy(x.bottom);
        int twos = bench.takeFactors(rest, 2);
        int fives = bench.takeFactors(rest, 5);
        if (rest.isAbove(GREATEST_PERIOD_DIVISOR)) {
            return NO;
        }
        return what == 0 ? Math.max(twos, fives) : orderOfTen((int) rest.low());
    }

    // ---- places

    private Ratio find(int a) {
        return a >= 0 && a < PLACES && taken[a] ? numbers[a] : null;
    }

    private boolean isFull() {
        return held >= PLACES;
    }

    /** The number of the place that takes the bench's result, or WIDE. */
    private int keep() {
        bench.reduce();
        if (bench.result.isWide()) {
            return WIDE;
        }
        for (int i = 0; i < PLACES; i++) {
            if (!taken[i]) {
                numbers[i].copy(bench.result);
                taken[i] = true;
                held++;
                return i;
            }
        }
        return FULL;
    }

    // ---- how often figures come again

    /**
     * The least n above 0 with 10 to the n-th 1 by the modulus d, which has no factor 2 or 5; 0 if d is
     * 1. It divides Euler's function of d, so that it is had by dividing that as often as may be.
     */
    private static int orderOfTen(int d) {
        if (d < 2) {
            return 0;
        }
        int order = totient(d);
        int left = order;
        for (int k = 0; k < 32 && left > 1; k++) {
            int p = leastFactor(left);
            left /= p;
            if (tenToThe(order / p, d) == 1) {
                order /= p;
            }
        }
        return order;
    }

    private static int totient(int d) {
        int phi = d;
        int left = d;
        int before = 1;
        for (int k = 0; k < 32 && left > 1; k++) {
            int p = leastFactor(left);
            if (p != before) {
                phi -= phi / p;
            }
            left /= p;
            before = p;
        }
        return phi;
    }

    /** The least factor above 1 of n; 2 if n is below that. */
    private static int leastFactor(int n) {
        for (int p = 2; p <= n / p; p++) {
            if (n % p == 0) {
                return p;
            }
        }
        return Math.max(n, 2);
    }

    private static int tenToThe(int n, int d) {
        if (d < 1) {
            return 0;
        }
        long product = 1 % d;
        long square = 10 % d;
        for (int left = n; left > 0; left >>= 1) {
            if ((left & 1) == 1) {
                product = product * square % d;
            }
            square = square * square % d;
        }
        return (int) product;
    }

    /** A whole number of no sign: a row of 32-bit limbs, the lowest one first. */
    private static final class Wide {
        private final int[] row;
        // The limbs in use; the highest of them is not 0, and what is above them counts for nothing.
        private int used;

        Wide(int room) {
            row = new int[Math.max(room, 2)];
            used = 0;
        }

        long limbAt(int i) {
            return i >= 0 && i < used && i < row.length ? row[i] & LIMB : 0L;
        }

        private void put(int i, long limb) {
            if (i >= 0 && i < row.length) {
                row[i] = (int) limb;
            }
        }

        private void trim(int n) {
            int k = Math.max(0, Math.min(n, row.length));
            while (k > 0 && row[k - 1] == 0) {
                k--;
            }
            used = k;
        }

        void clear() {
            used = 0;
        }

        /** Takes all 64 bits of v as a size. */
        void become(long v) {
            put(0, v);
            put(1, v >>> 32);
            trim(2);
        }

        void copy(Wide w) {
            int n = Math.min(w.used, row.length);
            System.arraycopy(w.row, 0, row, 0, n);
            trim(n);
        }

        boolean isZero() {
            return used == 0;
        }

        boolean isOne() {
            return used == 1 && limbAt(0) == 1;
        }

        boolean isOdd() {
            return (limbAt(0) & 1) == 1;
        }

        /** Whether it is above v, which is not below 0. */
        boolean isAbove(long v) {
            return bits() > 63 || low() > v;
        }

        int bits() {
            return used == 0 ? 0 : 32 * used - Integer.numberOfLeadingZeros((int) limbAt(used - 1));
        }

        long low() {
            return limbAt(1) << 32 | limbAt(0);
        }

        /** -1, 0 or 1 as it is below w, the same, or above. */
        int order(Wide w) {
            if (used != w.used) {
                return used < w.used ? -1 : 1;
            }
            for (int i = used - 1; i >= 0; i--) {
                if (limbAt(i) != w.limbAt(i)) {
                    return limbAt(i) < w.limbAt(i) ? -1 : 1;
                }
            }
            return 0;
        }

        void add(Wide w) {
            int n = Math.min(Math.max(used, w.used) + 1, row.length);
            long carry = 0;
            for (int i = 0; i < n; i++) {
                long sum = limbAt(i) + w.limbAt(i) + carry;
                put(i, sum);
                carry = sum >>> 32;
            }
            trim(n);
        }

        /** Becomes a less b, which is not above a; may itself be one of them. */
        void subtract(Wide a, Wide b) {
            int n = a.used;
            long borrow = 0;
            for (int i = 0; i < n; i++) {
                long rest = a.limbAt(i) - b.limbAt(i) - borrow;
                put(i, rest);
                borrow = rest >>> 63;
            }
            trim(n);
        }

        /** Becomes a times b; may not itself be one of them. */
        void multiply(Wide a, Wide b) {
            clear();
            addProduct(a, b);
        }

        /** Becomes itself and a times b; may not itself be one of them. */
        void addProduct(Wide a, Wide b) {
            int n = Math.min(Math.max(used, a.used + b.used) + 1, row.length);
            for (int i = used; i < n; i++) {
                put(i, 0);
            }
            used = n;
            for (int i = 0; i < a.used; i++) {
                addTimes(b, a.limbAt(i), i);
            }
            trim(n);
        }

        /** Adds so many times b from limb at on, which is not below 0. */
        private void addTimes(Wide b, long factor, int at) {
            int n = Math.min(b.used, used - at);
            long carry = 0;
            for (int j = 0; j < n; j++) {
                long sum = factor * (b.row[j] & LIMB) + (row[at + j] & LIMB) + carry;
                row[at + j] = (int) sum;
                carry = sum >>> 32;
            }
            for (int i = at + n; i < used && carry != 0; i++) {
                long sum = (row[i] & LIMB) + carry;
                row[i] = (int) sum;
                carry = sum >>> 32;
            }
        }

        /** Becomes itself times the factor and so much more, both below 2 to the 31. */
        void timesPlus(int factor, int more) {
            int n = Math.min(used + 1, row.length);
            long carry = more;
            for (int i = 0; i < n; i++) {
                long sum = limbAt(i) * factor + carry;
                put(i, sum);
                carry = sum >>> 32;
            }
            trim(n);
        }

        /** Becomes the quotient by d, which is above 0, and answers the rest. */
        int divideBy(int d) {
            if (d <= 0) {
                return 0;
            }
            long rest = 0;
            for (int i = used - 1; i >= 0; i--) {
                long pair = rest << 32 | limbAt(i);
                put(i, pair / d);
                rest = pair % d;
            }
            trim(used);
            return (int) rest;
        }

        void shiftLeft(int n) {
            if (n <= 0) {
                return;
            }
            int limbs = n >> 5;
            int bits = n & 31;
            int end = Math.min(used + limbs + 1, row.length);
            for (int i = end - 1; i >= 0; i--) {
                put(i, (limbAt(i - limbs) << 32 | limbAt(i - limbs - 1)) << bits >>> 32);
            }
            trim(end);
        }

        /**
         * Becomes the rest by the divisor; the quotient goes to a row that is neither of these. Knuth's
         * algorithm D, but the two numbers are shifted only where a figure is guessed from their tops.
         */
        void divide(Wide divisor, Wide quotient) {
            quotient.clear();
            int n = divisor.used;
            if (n == 0 || order(divisor) < 0) {
                return;
            }
            int shift = Integer.numberOfLeadingZeros((int) divisor.limbAt(n - 1));
            long lead = divisor.pairAt(n - 1, shift);
            int last = used - n;
            for (int j = last; j >= 0; j--) {
                long third = pairAt(j + n - 2, shift) >>> 32;
                long q = guess(pairAt(j + n, shift), third, lead >>> 32, lead & LIMB);
                if (!takeTimes(divisor, q, j)) {
                    putBack(divisor, j);
                    q--;
                }
                put(j + n, 0);
                quotient.put(j, q);
            }
            trim(used);
            quotient.trim(last + 1);
        }

        /** Limbs i and i - 1 of what it would be if it were shifted by so many bits, below 32. */
        private long pairAt(int i, int shift) {
            return (limbAt(i) << 32 | limbAt(i - 1)) << shift | limbAt(i - 2) << shift >>> 32;
        }

        /** A limb of the quotient, or one more than that. */
        private static long guess(long pair, long third, long lead, long second) {
            long q = quotientOfUnsigned(pair, lead);
            long r = pair - q * lead;
            for (int k = 0; k < 2 && r <= LIMB; k++) {
                if (q > LIMB || q * second + TOP_BIT > (r << 32 | third) + TOP_BIT) {
                    q--;
                    r += lead;
                }
            }
            return q;
        }

        /** x as of 64 bits without a sign; d is above 0 and below 2 to the 32. */
        private static long quotientOfUnsigned(long x, long d) {
            if (d <= 0) {
                return 0;
            }
            long q = (x >>> 1) / d << 1;
            return x - q * d >= d ? q + 1 : q;
        }

        /** Takes q times the divisor from limb j on, which is not below 0: whether so much was there. */
        private boolean takeTimes(Wide divisor, long q, int j) {
            int n = Math.min(divisor.used, used - j);
            long carry = 0;
            for (int i = 0; i < n; i++) {
                long product = q * (divisor.row[i] & LIMB) + carry;
                long rest = (row[j + i] & LIMB) - (product & LIMB);
                row[j + i] = (int) rest;
                carry = (product >>> 32) + (rest >>> 63);
            }
            return limbAt(j + n) >= carry;
        }

        private void putBack(Wide divisor, int j) {
            long carry = 0;
            for (int i = 0; i < divisor.used; i++) {
                long sum = limbAt(j + i) + divisor.limbAt(i) + carry;
                put(j + i, sum);
                carry = sum >>> 32;
            }
        }
    }

    /** A fraction: its sign (0 of 0 alone, once it is in least terms), N's size and D. */
    private static final class Ratio {
        private int sign;
        private final Wide top;
        private final Wide bottom;

        Ratio(int room) {
            sign = 0;
            top = new Wide(room);
            bottom = new Wide(room);
        }

        void copy(Ratio r) {
            sign = r.sign;
            top.copy(r.top);
            bottom.copy(r.bottom);
        }

        void become(int newSign, long size) {
            sign = newSign;
            top.become(size);
            bottom.become(1);
        }

        void becomeWhole(int newSign, Wide size) {
            sign = newSign;
            top.copy(size);
            bottom.become(1);
        }

        boolean isWhole() {
            return bottom.isOne();
        }

        boolean isWide() {
            return top.bits() > NUMBER_BITS || bottom.bits() > NUMBER_BITS;
        }

        /** Whether N is a long's; the least long has a size of its own. */
        boolean fitsLong() {
            return top.bits() < 64 || sign < 0 && top.bits() == 64 && top.low() == TOP_BIT;
        }

        /** Adds so much to N, D being left alone. */
        void addToTop(int itsSign, Wide size) {
            if (top.isZero()) {
                sign = itsSign;
                top.copy(size);
            } else if (sign == itsSign) {
                top.add(size);
            } else if (top.order(size) >= 0) {
                top.subtract(top, size);
            } else {
                sign = itsSign;
                top.subtract(size, top);
            }
        }
    }

    /** Where fractions are reckoned; what comes of it stands in its result. */
    private static final class Bench {
        private final Ratio result = new Ratio(WORK_LIMBS);
        private final Wide left = new Wide(WORK_LIMBS);
        private final Wide right = new Wide(WORK_LIMBS);
        private final Wide quotient = new Wide(WORK_LIMBS);
        private final Wide spare = new Wide(WORK_LIMBS);

        void reduce() {
            if (result.top.isZero()) {
                result.become(0, 0);
                return;
            }
            if (result.bottom.isOne()) {
                return;
            }
            Wide divisor = greatestDivisor(result.top, result.bottom);
            if (!divisor.isOne()) {
                divideOut(result.top, divisor);
                divideOut(result.bottom, divisor);
            }
        }

        private void divideOut(Wide w, Wide divisor) {
            spare.copy(w);
            spare.divide(divisor, w);
        }

        /** Answers the row of the bench that holds it. */
        Wide greatestDivisor(Wide a, Wide b) {
            Wide x = left;
            Wide y = right;
            x.copy(a);
            y.copy(b);
            for (int i = 0; i < MOST_STEPS && !y.isZero(); i++) {
                x.divide(y, quotient);
                Wide rest = x;
                x = y;
                y = rest;
            }
            return x;
        }

        /** The sum of x and of what has y's size and the given sign. */
        void sumOf(Ratio x, Ratio y, int signOfY) {
            result.sign = x.sign;
            result.top.multiply(x.top, y.bottom);
            spare.multiply(y.top, x.bottom);
            result.addToTop(signOfY, spare);
            result.bottom.multiply(x.bottom, y.bottom);
        }

        void productOf(Ratio x, Ratio y) {
            result.sign = x.sign * y.sign;
            result.top.multiply(x.top, y.top);
            result.bottom.multiply(x.bottom, y.bottom);
        }

        void quotientOf(Ratio x, Ratio y) {
            result.sign = x.sign * y.sign;
            result.top.multiply(x.top, y.bottom);
            result.bottom.multiply(x.bottom, y.top);
        }

        /** As the greatest whole number not above x / y is taken, the rest has the sign of y. */
        void restOf(Ratio x, Ratio y) {
            result.sign = y.sign;
            result.top.multiply(x.top, y.bottom);
            spare.multiply(y.top, x.bottom);
            result.top.divide(spare, quotient);
            if (x.sign != y.sign && !result.top.isZero()) {
                result.top.subtract(spare, result.top);
            }
            result.bottom.multiply(x.bottom, y.bottom);
        }

        void powerOf(Ratio x, int n) {
            int times = Math.abs(n);
            result.sign = (times & 1) == 1 ? x.sign : 1;
            raise(result.top, n < 0 ? x.bottom : x.top, times);
            raise(result.bottom, n < 0 ? x.top : x.bottom, times);
        }

        /** By squares, from the highest bit on that times may have: that of MOST_POWER. */
        private void raise(Wide into, Wide base, int times) {
            into.become(1);
            for (int bit = MOST_POWER; bit > 0; bit >>= 1) {
                grow(into, into);
                if ((times & bit) != 0) {
                    grow(into, base);
                }
            }
        }

        /** What is too wide is left so: it would stay that, as the other row has no factor of it. */
        private void grow(Wide w, Wide factor) {
            if (w.bits() <= NUMBER_BITS) {
                spare.multiply(factor, w);
                w.copy(spare);
            }
        }

        /** how: 0 down, 1 up, 2 to the nearest, 3 towards 0. */
        void wholeNear(Ratio x, int how) {
            spare.copy(x.top);
            spare.divide(x.bottom, result.top);
            boolean away = false;
            if (how == 0) {
                away = x.sign < 0 && !spare.isZero();
            } else if (how == 1) {
                away = x.sign > 0 && !spare.isZero();
            } else if (how == 2) {
                away = isRoundedUp(spare, x.bottom, result.top.isOdd());
            }
            if (away) {
                result.top.timesPlus(1, 1);
            }
            result.sign = x.sign;
            result.bottom.become(1);
        }

        /**
         * Whether the rest by a divisor is above its half, or is the half and the quotient is odd. The
         * rest is lost.
         */
        private static boolean isRoundedUp(Wide rest, Wide divisor, boolean isOdd) {
            rest.shiftLeft(1);
            int order = rest.order(divisor);
            return order > 0 || order == 0 && isOdd;
        }

        int orderOf(Ratio x, Ratio y) {
            if (x.sign != y.sign) {
                return x.sign < y.sign ? -1 : 1;
            }
            left.multiply(x.top, y.bottom);
            right.multiply(y.top, x.bottom);
            return x.sign * left.order(right);
        }

        /**
         * The bits, without the sign's, of the nearest floating number: least is the exponent of the
         * least one's only bit. A quotient that rounds up to one bit more carries into the exponent's
         * field by itself, and so does the first one that has all of its bits.
         */
        long nearestBits(Ratio x, int precision, int least, long infinite) {
            if (x.sign == 0) {
                return 0;
            }
            int exponent = x.top.bits() - x.bottom.bits();
            scale(x, exponent);
            if (left.order(right) < 0) {
                exponent--;
            }
            int unit = Math.max(exponent - precision + 1, least);
            scale(x, unit);
            left.divide(right, quotient);
            long bits = ((long) (unit - least) << (precision - 1)) + quotient.low();
            if (isRoundedUp(left, right, quotient.isOdd())) {
                bits++;
            }
            return Math.min(bits, infinite);
        }

        /** left / right becomes the size of x by 2 to the exponent. */
        private void scale(Ratio x, int exponent) {
            left.copy(x.top);
            right.copy(x.bottom);
            left.shiftLeft(-exponent);
            right.shiftLeft(exponent);
        }

        /** Divides w by the factor as often as may be: how often. */
        int takeFactors(Wide w, int factor) {
            for (int n = 0; n < NUMBER_BITS; n++) {
                spare.copy(w);
                if (spare.divideBy(factor) != 0) {
                    return n;
                }
                w.copy(spare);
            }
            return NUMBER_BITS;
        }
    }

    /** THE CHAIN of a number x, which is cut term by term: x is the head and rest / D. */
    private static final class Chain {
        private int headSign;
        private final Wide head = new Wide(WORK_LIMBS);
        private final Wide rest = new Wide(WORK_LIMBS);
        // The latest term behind the head.
        private final Wide link = new Wide(WORK_LIMBS);
        // What is left of the chain is that of greater / lesser; nothing, if lesser is 0.
        private Wide greater = new Wide(WORK_LIMBS);
        private Wide lesser = new Wide(WORK_LIMBS);
        // What the terms behind the head make, with all of them and with all but the latest.
        private Wide top = new Wide(WORK_LIMBS);
        private Wide bottom = new Wide(WORK_LIMBS);
        private Wide topBefore = new Wide(WORK_LIMBS);
        private Wide bottomBefore = new Wide(WORK_LIMBS);
        private final Wide spare = new Wide(WORK_LIMBS);

        void begin(Ratio x) {
            headSign = x.sign;
            rest.copy(x.top);
            rest.divide(x.bottom, head);
            if (x.sign < 0 && !rest.isZero()) {
                head.timesPlus(1, 1);
                rest.subtract(x.bottom, rest);
            }
            greater.copy(x.bottom);
            lesser.copy(rest);
        }

        private boolean hasMore() {
            return !lesser.isZero();
        }

        private void cut() {
            greater.divide(lesser, link);
            Wide w = greater;
            greater = lesser;
            lesser = w;
        }

        int length() {
            int n = 1;
            while (n < MOST_STEPS && hasMore()) {
                cut();
                n++;
            }
            return n;
        }

        /** Cuts until term i is the link (of 0, the head): whether there is such a one. */
        boolean goTo(int i) {
            if (i < 0 || i > MOST_STEPS) {
                return false;
            }
            int k = 0;
            while (k < i && hasMore()) {
                cut();
                k++;
            }
            return k == i;
        }

        /** Cuts n terms and joins them: whether there are so many. */
        boolean gather(int n) {
            if (n < 1 || n > MOST_STEPS) {
                return false;
            }
            top.clear();
            bottom.become(1);
            topBefore.become(1);
            bottomBefore.clear();
            int k = 1;
            while (k < n && hasMore()) {
                cut();
                join();
                k++;
            }
            return k == n;
        }

        private void join() {
            topBefore.addProduct(link, top);
            Wide w = topBefore;
            topBefore = top;
            top = w;
            bottomBefore.addProduct(link, bottom);
            w = bottomBefore;
            bottomBefore = bottom;
            bottom = w;
        }

        /** The head and top / bottom. */
        void tell(Ratio result) {
            result.sign = headSign;
            result.top.multiply(head, bottom);
            result.addToTop(1, top);
            result.bottom.copy(bottom);
        }

        /**
         * top / bottom becomes the fraction nearest to rest / d whose D is the bound at most, d being
         * above that. The nearest ones on both sides are what the terms make before D would be above
         * the bound, and the same with as much of the next term as the bound leaves room for.
         */
        void seekNearest(Wide d, long bound) {
            long p = 0;
            long q = 1;
            long pBefore = 1;
            long qBefore = 0;
            long times = 0;
            for (int k = 0; k < MOST_STEPS && hasMore() && q > 0; k++) {
                cut();
                times = (bound - qBefore) / q;
                if (link.isAbove(times)) {
                    break;
                }
                long pNext = link.low() * p + pBefore;
                long qNext = link.low() * q + qBefore;
                pBefore = p;
                qBefore = q;
                p = pNext;
                q = qNext;
            }
            choose(d, p, q, pBefore + times * p, qBefore + times * q);
        }

        private void choose(Wide d, long p, long q, long pOther, long qOther) {
            gap(greater, d, p, q, qOther);
            gap(lesser, d, pOther, qOther, q);
            int order = greater.order(lesser);
            if (order == 0) {
                order = q == qOther ? Long.compare(p, pOther) : Long.compare(q, qOther);
            }
            top.become(order <= 0 ? p : pOther);
            bottom.become(order <= 0 ? q : qOther);
        }

        /** How far p / q is from rest / d, times d, q and the factor. */
        private void gap(Wide into, Wide d, long p, long q, long factor) {
            spare.become(q);
            topBefore.multiply(rest, spare);
            spare.become(p);
            bottomBefore.multiply(d, spare);
            if (topBefore.order(bottomBefore) >= 0) {
                topBefore.subtract(topBefore, bottomBefore);
            } else {
                topBefore.subtract(bottomBefore, topBefore);
            }
            spare.become(factor);
            into.multiply(topBefore, spare);
        }
    }

    /** THE TAPE, and how a number stands on it. */
    private static final class Tape {
        private final byte[] bytes = new byte[TAPE_BYTES];
        private int length = 0;
        // Where the figures ahead of the mark begin and end, and where those behind it end.
        private int start = 0;
        private int end = 0;
        private int lastEnd = 0;

        boolean add(int b) {
            if (length >= TAPE_BYTES) {
                return false;
            }
            bytes[length] = (byte) b;
            length++;
            return true;
        }

        void clear() {
            length = 0;
        }

        private int at(int i) {
            return i >= 0 && i < length ? bytes[i] & 255 : -1;
        }

        private boolean isFigure(int i) {
            return at(i) >= '0' && at(i) <= '9';
        }

        private int endOfFigures(int from, int most) {
            int i = from;
            while (i - from < most && isFigure(i)) {
                i++;
            }
            return i;
        }

        /** The place of the first byte that can't stand there; -1 if there is none. */
        int findFault() {
            start = at(0) == '-' ? 1 : 0;
            end = endOfFigures(start, MOST_READ_FIGURES);
            lastEnd = end;
            if (end == start) {
                return start;
            }
            int mark = at(end);
            if (mark == '/' || mark == '.') {
                int most = mark == '/' ? MOST_READ_FIGURES : MOST_READ_FIGURES - (end - start);
                lastEnd = endOfFigures(end + 1, most);
                if (lastEnd == end + 1) {
                    return lastEnd;
                }
            }
            return lastEnd < length ? lastEnd : -1;
        }

        /** What stands there, if there was no fault; not yet in least terms. */
        void tell(Ratio result) {
            result.become(start == 1 ? -1 : 1, 0);
            addFigures(result.top, start, end);
            int mark = at(end);
            if (mark == '/') {
                result.bottom.clear();
                addFigures(result.bottom, end + 1, lastEnd);
            } else if (mark == '.') {
                addFigures(result.top, end + 1, lastEnd);
                for (int i = end + 1; i < lastEnd; i++) {
                    result.bottom.timesPlus(10, 0);
                }
            }
        }

        private void addFigures(Wide w, int from, int to) {
            for (int i = from; i < to; i++) {
                w.timesPlus(10, at(i) - '0');
            }
        }
    }

    /** OUT, and how numbers are written to it. */
    private static final class Sheet {
        private final byte[] bytes = new byte[OUT_BYTES];
        private int length = 0;
        private final Wide left = new Wide(WORK_LIMBS);
        private final Wide rest = new Wide(WORK_LIMBS);
        private final Wide quotient = new Wide(WORK_LIMBS);

        void begin(boolean isBelowZero) {
            length = 0;
            if (isBelowZero) {
                add('-');
            }
        }

        void add(int b) {
            if (length < OUT_BYTES) {
                bytes[length] = (byte) b;
                length++;
            }
        }

        int at(int i) {
            return i >= 0 && i < length ? bytes[i] & 255 : NONE;
        }

        void addSize(Wide w) {
            int from = length;
            left.copy(w);
            add('0' + left.divideBy(10));
            for (int i = 0; i < MOST_FIGURES && !left.isZero(); i++) {
                add('0' + left.divideBy(10));
            }
            turnRound(from);
        }

        // The figures come the lowest first.
        private void turnRound(int from) {
            int i = from;
            int j = length - 1;
            while (i >= 0 && i < j && j < OUT_BYTES) {
                byte b = bytes[i];
                bytes[i] = bytes[j];
                bytes[j] = b;
                i++;
                j--;
            }
        }

        /** The size of x, cut behind n figures. */
        void addCut(Ratio x, int n) {
            rest.copy(x.top);
            rest.divide(x.bottom, quotient);
            addSize(quotient);
            if (n > 0) {
                add('.');
            }
            for (int i = 0; i < n; i++) {
                rest.timesPlus(10, 0);
                rest.divide(x.bottom, quotient);
                add('0' + (int) quotient.low());
            }
        }
    }
}
