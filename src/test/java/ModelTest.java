import java.math.BigInteger;
import java.util.Random;
import java.util.function.LongSupplier;

/** Long runs of calls, drawn from fixed seeds, on the class and on the model at once. */
public final class ModelTest {
    private static final int RUNS = 300;
    private static final int CALLS = 512;

    private final Random random;
    private final LeastTerms x = new LeastTerms();
    private final Model m = new Model();

    private ModelTest(long seed) {
        random = new Random(seed);
    }

    private static String answer(LongSupplier call) {
        try {
            return "" + call.getAsLong();
        } catch (NegativeArraySizeException | ArrayIndexOutOfBoundsException | ArithmeticException e) {
            return e.getClass().getName();
        }
    }

    private void both(String call, LongSupplier one, LongSupplier other) {
        String want = answer(other);
        Due.is(call, answer(one), want);
        Due.is("count behind " + call, x.count(), m.count());
    }

    private int place() {
        int kind = random.nextInt(40);
        if (kind == 0) {
            return random.nextInt();
        }
        if (kind == 1) {
            return random.nextBoolean() ? -1 : 24;
        }
        return kind == 2 ? random.nextInt(24) : random.nextInt(Math.max(1, Math.min(24, m.count() + 1)));
    }

    /** Mostly from low to high, at times one beside it, or any. */
    private int number(int low, int high) {
        int kind = random.nextInt(30);
        if (kind == 0) {
            return random.nextInt();
        }
        if (kind == 1) {
            return random.nextBoolean() ? low - 1 : high + 1;
        }
        return low + random.nextInt(high - low + 1);
    }

    private long wideNumber() {
        return random.nextLong() >> random.nextInt(64);
    }

    private long realBits() {
        int kind = random.nextInt(12);
        if (kind == 0) {
            return random.nextLong();
        }
        long field = kind == 1 ? 2047 : kind == 2 ? random.nextInt(2) : 1023 + random.nextInt(1060) - 530;
        long fraction = random.nextLong() >>> 12;
        fraction = random.nextInt(3) == 0 ? fraction >>> 40 << 40 : random.nextInt(4) == 0 ? 0 : fraction;
        return (random.nextBoolean() ? Long.MIN_VALUE : 0) | field << 52 | fraction;
    }

    /** Limbs at the edges are where a division guesses wrong. */
    private BigInteger edgyNumber(int mostLimbs) {
        long[] edges = {0, 1, 0x7fffffffL, 0x80000000L, 0x80000001L, 0xfffffffdL, 0xfffffffeL, 0xffffffffL};
        BigInteger v = BigInteger.ZERO;
        for (int i = 1 + random.nextInt(mostLimbs); i > 0; i--) {
            v = v.shiftLeft(32).add(BigInteger.valueOf(edges[random.nextInt(edges.length)]));
        }
        return v;
    }

    private String digits(int most) {
        if (most > 100 && random.nextInt(4) == 0) {
            return edgyNumber(random.nextBoolean() ? 16 : 4).toString();
        }
        if (random.nextInt(3) == 0) {
            BigInteger v = new BigInteger(1 + random.nextInt(most == 160 ? 513 : 40), random);
            return (random.nextInt(3) == 0 ? v.and(v.negate()).max(BigInteger.ONE) : v).toString();
        }
        StringBuilder s = new StringBuilder();
        int n = 1 + random.nextInt(random.nextInt(6) == 0 ? most : 9);
        boolean flat = random.nextInt(5) == 0;
        for (int i = 0; i < n; i++) {
            s.append((char) ('0' + (flat ? 9 * (n & 1) : random.nextInt(10))));
        }
        return s.toString();
    }

    private String bytesToRead() {
        StringBuilder s = new StringBuilder(random.nextInt(3) == 0 ? "-" : "");
        int kind = random.nextInt(6);
        if (kind == 0) {
            s.append(digits(80)).append('.').append(digits(82));
        } else if (kind == 1) {
            s.append(digits(160));
        } else {
            s.append(digits(161)).append('/').append(digits(161));
        }
        if (random.nextInt(12) == 0) {
            s.insert(random.nextInt(s.length() + 1), "-/.0x:".charAt(random.nextInt(6)));
        }
        if (random.nextInt(20) == 0) {
            s.setLength(random.nextInt(s.length()));
        }
        return s.toString();
    }

    private void feedAndRead() {
        String s = bytesToRead();
        for (int i = 0; i < s.length(); i++) {
            int b = s.charAt(i);
            both("feed " + b, () -> x.feed(b), () -> m.feed(b));
        }
        both("read of " + m.tape, x::read, m::read);
    }

    private void makeOne(int kind) {
        int a = place();
        int b = place();
        switch (kind) {
            case 0 -> {
                long v = wideNumber();
                both("whole " + v, () -> x.whole(v), () -> m.whole(v));
            }
            case 1 -> {
                int n = number(0, 16);
                both("shifted " + n, () -> x.shifted(n), () -> m.shifted(n));
            }
            case 2, 3 -> both("over " + a + " " + b, () -> x.over(a, b), () -> m.over(a, b));
            case 4, 5, 6, 7 -> {
                int op = number(0, 3);
                both("apply " + op + " " + a + " " + b, () -> x.apply(op, a, b), () -> m.apply(op, a, b));
            }
            case 8 -> {
                int n = random.nextInt(3) == 0 ? number(-512, 512) : random.nextInt(13) - 6;
                both("power " + a + " " + n, () -> x.power(a, n), () -> m.power(a, n));
            }
            case 9 -> {
                int how = number(0, 3);
                both("near " + a + " " + how, () -> x.near(a, how), () -> m.near(a, how));
            }
            case 10 -> both("common " + a + " " + b, () -> x.common(a, b), () -> m.common(a, b));
            case 11 -> {
                int i = number(0, Math.max(1, m.terms(a)));
                both("term " + a + " " + i, () -> x.term(a, i), () -> m.term(a, i));
            }
            case 12 -> {
                int n = number(1, Math.max(1, m.terms(a)));
                both("part " + a + " " + n, () -> x.part(a, n), () -> m.part(a, n));
            }
            case 13 -> {
                long bound = random.nextInt(4) == 0 ? wideNumber() : 1 + (random.nextLong() >>> (1 + random.nextInt(63)));
                both("best " + a + " " + bound, () -> x.best(a, bound), () -> m.best(a, bound));
            }
            case 14 -> {
                long bits = realBits();
                both("ofReal " + bits, () -> x.ofReal(bits), () -> m.ofReal(bits));
            }
            default -> feedAndRead();
        }
    }

    private void lookAtOne(int kind) {
        int a = place();
        switch (kind) {
            case 0 -> {
                int b = place();
                both("compare " + a + " " + b, () -> x.compare(a, b), () -> m.compare(a, b));
            }
            case 1 -> {
                int what = number(0, 3);
                both("of " + a + " " + what, () -> x.of(a, what), () -> m.of(a, what));
            }
            case 2 -> {
                int part = number(0, 1);
                int i = number(0, 4);
                both("limb " + a + " " + part + " " + i, () -> x.limb(a, part, i), () -> m.limb(a, part, i));
            }
            case 3 -> both("terms " + a, () -> x.terms(a), () -> m.terms(a));
            case 4 -> {
                int lane = number(0, 4);
                both("exact " + a + " " + lane, () -> x.exact(a, lane), () -> m.exact(a, lane));
            }
            case 5 -> both("real " + m.get(a), () -> x.real(a), () -> m.real(a));
            case 6 -> both("single " + m.get(a), () -> x.single(a), () -> m.single(a));
            case 7 -> both("text " + a, () -> x.text(a), () -> m.text(a));
            case 8 -> {
                int n = number(0, 100);
                both("figures " + a + " " + n, () -> x.figures(a, n), () -> m.figures(a, n));
            }
            case 9 -> {
                int i = number(0, Math.max(1, m.out.length()));
                both("out " + i, () -> x.out(i), () -> m.out(i));
            }
            case 10 -> {
                int what = number(0, 1);
                both("period " + a + " " + what, () -> x.period(a, what), () -> m.period(a, what));
            }
            default -> {
                int b = number(0, 255);
                both("feed " + b, () -> x.feed(b), () -> m.feed(b));
            }
        }
    }

    private String modelState() {
        StringBuilder s = new StringBuilder("count " + m.count() + "; ");
        for (int a = 0; a < 24; a++) {
            if (m.get(a) != null) {
                s.append(a).append(": ").append(m.of(a, 0)).append(limbs(a, 0)).append(limbs(a, 1)).append("; ");
            }
        }
        return s.append("out ").append(m.out).toString();
    }

    private String limbs(int a, int part) {
        StringBuilder s = new StringBuilder(" /");
        for (int i = 0; i < (m.of(a, 2 + part) + 31) / 32; i++) {
            s.append(' ').append(Integer.toHexString(m.limb(a, part, i)));
        }
        return s.toString();
    }

    private void run() {
        for (int i = 0; i < CALLS; i++) {
            int kind = random.nextInt(20);
            if (kind < 11) {
                makeOne(random.nextInt(18));
            } else if (kind < 17) {
                lookAtOne(random.nextInt(12));
            } else {
                int a = place();
                both("drop " + a, () -> x.drop(a), () -> m.drop(a));
            }
            if (i % 8 == 0) {
                Due.is("the state", Due.state(x), modelState());
            }
        }
        Due.is("the state at the end", Due.state(x), modelState());
    }

    /** Floats and doubles beside and midway between two that follow one another. */
    private static void roundings() {
        Random random = new Random(77);
        LeastTerms x = new LeastTerms();
        Model m = new Model();
        for (int i = 0; i < 4000; i++) {
            boolean isFloat = i % 2 == 0;
            double v = isFloat ? Float.intBitsToFloat(random.nextInt(0x7f800000)) : Double.longBitsToDouble((1023L + random.nextInt(700) - 400) << 52 | random.nextLong() >>> 12);
            double next = isFloat ? Math.nextUp((float) v) : Math.nextUp(v);
            long[] bits = {Double.doubleToLongBits(v), Double.doubleToLongBits(next)};
            int a = x.ofReal(bits[0]);
            int b = x.ofReal(bits[1] == 0x7ff0000000000000L ? bits[0] : bits[1]);
            if (a >= 0 && b >= 0) {
                int two = x.whole(2);
                int sum = x.apply(0, a, b);
                int middle = sum < 0 ? -1 : x.over(sum, two);
                int tiny = x.power(two, -490);
                int[] all = {a, b, middle, middle < 0 ? -1 : x.apply(0, middle, tiny), middle < 0 ? -1 : x.apply(1, middle, tiny)};
                for (int p : all) {
                    if (p >= 0) {
                        x.text(p);
                        String s = Due.out(x);
                        m.numbers[0] = fraction(s);
                        Due.is("real of " + s, x.real(p), m.real(0));
                        Due.is("single of " + s, x.single(p), m.single(0));
                    }
                }
            }
            for (int p = 0; p < 24; p++) {
                x.drop(p);
            }
        }
    }

    private static Model.Fraction fraction(String s) {
        String[] sides = s.split("/");
        return new Model.Fraction(new BigInteger(sides[0]), sides.length > 1 ? new BigInteger(sides[1]) : BigInteger.ONE);
    }

    /** Whole numbers of limbs at the edges: the rest of one by the other, and what they make as a chain. */
    private void divisions() {
        for (int i = 0; i < 20000; i++) {
            BigInteger n = edgyNumber(16);
            BigInteger d = edgyNumber(random.nextBoolean() ? 3 : 12).max(BigInteger.ONE);
            int a = Due.read(x, n.toString());
            int b = Due.read(x, d.toString());
            int rest = x.apply(3, a, b);
            m.numbers[0] = new Model.Fraction(n, BigInteger.ONE);
            m.numbers[1] = new Model.Fraction(d, BigInteger.ONE);
            m.numbers[2] = new Model.Fraction(n.mod(d), BigInteger.ONE);
            int ratio = x.over(a, b);
            m.numbers[3] = Model.Fraction.of(n, d);
            Due.is("the rest of " + n + " by " + d, Due.state(x), modelState());
            Due.is("the terms of " + n + " / " + d, x.terms(ratio), m.terms(3));
            for (int place = 0; place < 4; place++) {
                x.drop(place);
            }
        }
    }

    public static void main(String[] args) {
        int runs = args.length > 0 ? Integer.parseInt(args[0]) : RUNS;
        for (int seed = 1; seed <= runs; seed++) {
            new ModelTest(seed).run();
        }
        new ModelTest(0).divisions();
        roundings();
        Due.end("ModelTest");
    }
}
