import java.math.BigInteger;
import java.util.Random;
import java.util.function.LongSupplier;

/** Runs of 512 calls, drawn from fixed seeds, on the class and on the model at once. */
public final class ModelTest {
    private static final int RUNS = 2500;
    // What is left at the end of a run is used to look at what it holds.
    private static final int CALLS_TO_LOOK = 150;

    private final Random random;
    private Counted x = new Counted();
    private Model m = new Model();

    private ModelTest(long seed) {
        random = new Random(seed);
    }

    private static String answer(LongSupplier call) {
        try {
            return "" + call.getAsLong();
        } catch (NegativeArraySizeException | ArrayIndexOutOfBoundsException | ArithmeticException e) {
            return e.getClass().getName();
        }
    }

    private void both(String call, LongSupplier one, LongSupplier other) {
        if (x.callsLeft() > 0) {
            String want = answer(other);
            Due.is(call, answer(one), want);
        }
    }

    // ---- what to ask with

    private int place() {
        int kind = random.nextInt(60);
        if (kind == 0) {
            return random.nextInt();
        }
        if (kind == 1) {
            return random.nextBoolean() ? -1 : 24;
        }
        return kind == 2 ? random.nextInt(24) : random.nextInt(Math.max(1, Math.min(24, m.count() + 1)));
    }

    /** Mostly from low to high, at times one beside it, or any. */
    private int number(int low, int high) {
        int kind = random.nextInt(30);
        if (kind == 0) {
            return random.nextInt();
        }
        if (kind == 1) {
            return random.nextBoolean() ? low - 1 : high + 1;
        }
        return low + random.nextInt(high - low + 1);
    }

    private long wideNumber() {
        return random.nextLong() >> random.nextInt(64);
    }

    private long realBits() {
        int kind = random.nextInt(12);
        if (kind == 0) {
            return random.nextLong();
        }
        long field = kind == 1 ? 2047 : kind == 2 ? random.nextInt(2) : 1023 + random.nextInt(1060) - 530;
        long fraction = random.nextLong() >>> 12;
        fraction = random.nextInt(3) == 0 ? fraction >>> 40 << 40 : random.nextInt(4) == 0 ? 0 : fraction;
        return (random.nextBoolean() ? Long.MIN_VALUE : 0) | field << 52 | fraction;
    }

    /** Limbs at the edges are where a division guesses wrong. */
    private BigInteger edgyNumber(int mostLimbs) {
        long[] edges = {0, 1, 0x7fffffffL, 0x80000000L, 0x80000001L, 0xfffffffdL, 0xfffffffeL, 0xffffffffL};
        BigInteger v = BigInteger.ZERO;
        for (int i = 1 + random.nextInt(mostLimbs); i > 0; i--) {
            v = v.shiftLeft(32).add(BigInteger.valueOf(edges[random.nextInt(edges.length)]));
        }
        return v;
    }

    private String digits(int most) {
        StringBuilder s = new StringBuilder();
        int n = 1 + random.nextInt(random.nextInt(8) == 0 ? most : 9);
        boolean flat = random.nextInt(5) == 0;
        for (int i = 0; i < n; i++) {
            s.append((char) ('0' + (flat ? 9 * (n & 1) : random.nextInt(10))));
        }
        return s.toString();
    }

    private String bytesToRead() {
        StringBuilder s = new StringBuilder(random.nextInt(3) == 0 ? "-" : "");
        int kind = random.nextInt(6);
        if (kind < 2) {
            s.append(digits(80)).append('.').append(digits(82));
        } else if (kind == 2) {
            s.append(digits(162));
        } else {
            s.append(digits(60)).append('/').append(digits(162));
        }
        if (random.nextInt(8) == 0) {
            s.insert(random.nextInt(s.length() + 1), "-/.0x:".charAt(random.nextInt(6)));
        }
        if (random.nextInt(16) == 0) {
            s.setLength(random.nextInt(s.length()));
        }
        return s.toString();
    }

    // ---- calls

    private void feedAndRead() {
        String s = bytesToRead();
        for (int i = 0; i < s.length(); i++) {
            int b = s.charAt(i);
            both("feed " + b, () -> x.feed(b), () -> m.feed(b));
        }
        both("read of " + m.tape, () -> x.read(), () -> m.read());
    }

    private void makeOne(int kind) {
        int a = place();
        int b = place();
        switch (kind) {
            case 0, 1 -> {
                long v = random.nextInt(5) == 0 ? edgyNumber(2).longValue() : wideNumber();
                both("whole " + v, () -> x.whole(v), () -> m.whole(v));
            }
            case 2 -> {
                int n = number(0, 16);
                both("shifted " + n, () -> x.shifted(n), () -> m.shifted(n));
            }
            case 3, 4, 5 -> both("over " + a + " " + b, () -> x.over(a, b), () -> m.over(a, b));
            case 6, 7, 8, 9 -> {
                int op = number(0, 3);
                both("apply " + op + " " + a + " " + b, () -> x.apply(op, a, b), () -> m.apply(op, a, b));
            }
            case 10 -> {
                int n = random.nextInt(3) == 0 ? number(-512, 512) : random.nextInt(13) - 6;
                both("power " + a + " " + n, () -> x.power(a, n), () -> m.power(a, n));
            }
            case 11 -> {
                int how = number(0, 3);
                both("near " + a + " " + how, () -> x.near(a, how), () -> m.near(a, how));
            }
            case 12 -> both("common " + a + " " + b, () -> x.common(a, b), () -> m.common(a, b));
            case 13 -> {
                int i = number(0, Math.max(1, m.terms(a)));
                both("term " + a + " " + i, () -> x.term(a, i), () -> m.term(a, i));
            }
            case 14 -> {
                int n = number(1, Math.max(1, m.terms(a)));
                both("part " + a + " " + n, () -> x.part(a, n), () -> m.part(a, n));
            }
            case 15 -> {
                long bound = random.nextInt(4) == 0 ? wideNumber() : 1 + (random.nextLong() >>> (1 + random.nextInt(63)));
                both("best " + a + " " + bound, () -> x.best(a, bound), () -> m.best(a, bound));
            }
            case 16 -> {
                long bits = realBits();
                both("ofReal " + bits, () -> x.ofReal(bits), () -> m.ofReal(bits));
            }
            default -> feedAndRead();
        }
    }

    private void lookAtOne(int kind) {
        int a = place();
        switch (kind) {
            case 0 -> {
                int b = place();
                both("compare " + a + " " + b, () -> x.compare(a, b), () -> m.compare(a, b));
            }
            case 1 -> {
                int what = number(0, 3);
                both("of " + a + " " + what, () -> x.of(a, what), () -> m.of(a, what));
            }
            case 2 -> {
                int part = number(0, 1);
                int i = number(0, 4);
                both("limb " + a + " " + part + " " + i, () -> x.limb(a, part, i), () -> m.limb(a, part, i));
            }
            case 3 -> both("terms " + a, () -> x.terms(a), () -> m.terms(a));
            case 4 -> {
                int lane = number(0, 4);
                both("exact " + a + " " + lane, () -> x.exact(a, lane), () -> m.exact(a, lane));
            }
            case 5 -> both("real " + m.get(a), () -> x.real(a), () -> m.real(a));
            case 6 -> both("single " + m.get(a), () -> x.single(a), () -> m.single(a));
            case 7 -> both("text " + a, () -> x.text(a), () -> m.text(a));
            case 8 -> {
                int n = number(0, 100);
                both("figures " + a + " " + n, () -> x.figures(a, n), () -> m.figures(a, n));
            }
            case 9 -> {
                int i = number(0, Math.max(1, m.out.length()));
                both("out " + i, () -> x.out(i), () -> m.out(i));
            }
            case 10 -> {
                int what = number(0, 1);
                both("period " + a + " " + what, () -> x.period(a, what), () -> m.period(a, what));
            }
            case 11 -> both("count", () -> x.count(), () -> m.count());
            default -> {
                int b = number(0, 255);
                both("feed " + b, () -> x.feed(b), () -> m.feed(b));
            }
        }
    }

    /** All that a NUMBER is, and where its limbs end. */
    private void lookAtAll(int a) {
        for (int k = 0; k < 4; k++) {
            int what = k;
            both("of " + a + " " + what, () -> x.of(a, what), () -> m.of(a, what));
        }
        for (int k = 0; k < 2; k++) {
            int part = k;
            for (int j = 0; j <= (m.of(a, 2 + part) + 31) / 32; j++) {
                int i = j;
                both("limb " + a + " " + part + " " + i, () -> x.limb(a, part, i), () -> m.limb(a, part, i));
            }
        }
    }

    private void run() {
        while (x.callsLeft() > CALLS_TO_LOOK) {
            int kind = random.nextInt(20);
            if (kind < 11) {
                makeOne(random.nextInt(18));
            } else if (kind < 17) {
                lookAtOne(random.nextInt(13));
            } else {
                int a = place();
                both("drop " + a, () -> x.drop(a), () -> m.drop(a));
            }
        }
        both("count at the end", () -> x.count(), () -> m.count());
        for (int i = 0; i < 40; i++) {
            int b = i;
            both("out " + b, () -> x.out(b), () -> m.out(b));
        }
        while (x.callsLeft() > 0) {
            lookAtAll(random.nextInt(24));
        }
    }

    // ---- rows of one kind

    private void startAnew() {
        x = new Counted();
        m = new Model();
    }

    private void put(BigInteger n, BigInteger d) {
        Model.Fraction f = Model.Fraction.of(n, d);
        m.numbers[x.put(f.n(), f.d())] = f;
    }

    /** Doubles or floats beside and midway between two that follow one another. */
    private void roundings() {
        for (int i = 0; i < 4000; i++) {
            boolean isFloat = i % 2 == 0;
            double v = isFloat ? Float.intBitsToFloat(random.nextInt(0x7f800000)) : Double.longBitsToDouble((1023L + random.nextInt(700) - 400) << 52 | random.nextLong() >>> 12);
            double next = isFloat ? Math.nextUp((float) v) : Math.nextUp(v);
            long[] bits = {Double.doubleToLongBits(v), Double.doubleToLongBits(Double.isInfinite(next) ? v : next)};
            startAnew();
            for (long b : bits) {
                both("ofReal " + b, () -> x.ofReal(b), () -> m.ofReal(b));
            }
            both("whole 2", () -> x.whole(2), () -> m.whole(2));
            both("the sum", () -> x.apply(0, 0, 1), () -> m.apply(0, 0, 1));
            both("midway", () -> x.over(3, 2), () -> m.over(3, 2));
            both("a tiny one", () -> x.power(2, -490), () -> m.power(2, -490));
            both("above", () -> x.apply(0, 4, 5), () -> m.apply(0, 4, 5));
            both("below", () -> x.apply(1, 4, 5), () -> m.apply(1, 4, 5));
            for (int p = 0; p < 8; p++) {
                int a = p;
                both("real of " + m.get(a), () -> x.real(a), () -> m.real(a));
                both("single of " + m.get(a), () -> x.single(a), () -> m.single(a));
            }
        }
    }

    /** Whole numbers of limbs at the edges: the rest of one by the other, and what they make. */
    private void divisions() {
        for (int i = 0; i < 20000; i++) {
            startAnew();
            put(edgyNumber(16), BigInteger.ONE);
            put(edgyNumber(random.nextBoolean() ? 3 : 12).max(BigInteger.ONE), BigInteger.ONE);
            both("the rest", () -> x.apply(3, 0, 1), () -> m.apply(3, 0, 1));
            both("the quotient", () -> x.over(0, 1), () -> m.over(0, 1));
            both("its terms", () -> x.terms(3), () -> m.terms(3));
            both("its double", () -> x.real(3), () -> m.real(3));
            for (int a = 0; a < 4; a++) {
                lookAtAll(a);
            }
        }
    }

    /** Fractions of limbs at the edges, and all that is reckoned with two of them. */
    private void reckonings() {
        for (int i = 0; i < 4000; i++) {
            startAnew();
            put(edgyNumber(8).multiply(BigInteger.valueOf(random.nextInt(3) - 1)), edgyNumber(7).max(BigInteger.ONE));
            put(edgyNumber(8).negate(), edgyNumber(7).max(BigInteger.TWO));
            for (int k = 0; k < 4; k++) {
                int op = k;
                both("apply " + op, () -> x.apply(op, 0, 1), () -> m.apply(op, 0, 1));
            }
            both("over", () -> x.over(0, 1), () -> m.over(0, 1));
            both("compare", () -> x.compare(0, 1), () -> m.compare(0, 1));
            long bound = 1 + (random.nextLong() >>> (1 + random.nextInt(63)));
            both("best " + bound, () -> x.best(0, bound), () -> m.best(0, bound));
            int n = 1 + random.nextInt(Math.max(1, m.terms(1)));
            both("part " + n, () -> x.part(1, n), () -> m.part(1, n));
            for (int a = 0; a < 9; a++) {
                lookAtAll(a);
            }
        }
    }

    public static void main(String[] args) {
        int runs = args.length > 0 ? Integer.parseInt(args[0]) : RUNS;
        for (int seed = 1; seed <= runs; seed++) {
            new ModelTest(seed).run();
        }
        new ModelTest(0).divisions();
        new ModelTest(77).roundings();
        new ModelTest(78).reckonings();
        Due.end("ModelTest");
    }
}
