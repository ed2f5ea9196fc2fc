import java.math.BigInteger;
import java.util.function.Supplier;
import java.util.function.ToLongFunction;

/** Promises 1 to 13: the NUMBERS, how they are reckoned and looked at. */
public final class NumbersTest {
    private static final Class<ArithmeticException> ARITHMETIC = ArithmeticException.class;
    private static final int BAD = LeastTerms.BAD, NO = LeastTerms.NO;
    private static final BigInteger GREATEST = Counted.GREATEST;

    private static void makes(String what, ToLongFunction<Counted> call, Object want, Object... held) {
        Due.makes(what, () -> Counted.holding(held), call, want);
    }

    private static void refused(String what, ToLongFunction<Counted> call, int want, Object... held) {
        Due.refused(what, () -> Counted.holding(held).written(0).fed("12"), call, want);
    }

    private static void thrown(String what, ToLongFunction<Counted> call, Class<? extends RuntimeException> want, Object... held) {
        Due.thrown(what, () -> Counted.holding(held).written(0).fed("12"), call, want);
    }

    /** "No NUMBERS; THE TAPE, OUT are empty." */
    private static void promise1() {
        Due.answers("count of a new object", Counted::new, t -> t.count(), 0);
        Due.answers("feed to a new object", Counted::new, t -> t.feed('1'), 1);
        Due.answers("read of a new object", Counted::new, t -> t.read(), -10);
        Due.answers("out of a new object", Counted::new, t -> t.out(0), LeastTerms.NONE);
        Counted t = new Counted();
        for (int a = 0; a < 24; a++) {
            Due.is("place " + a + " of a new object", t.of(a, 3), BAD);
        }
    }

    /** "A WHOLE: its number." */
    private static void promise2() {
        long[] values = {
            0, 1, -1, 7, -7, 0x7fffffffL, 0x80000000L, -0x80000000L, 0xffffffffL, 0x100000000L, -0x100000000L, 0x100000001L,
            Long.MAX_VALUE, -Long.MAX_VALUE, Long.MIN_VALUE,
        };
        for (long v : values) {
            Due.makes("whole(" + v + ")", Counted::new, t -> t.whole(v), v);
            Counted t = Counted.holding(v);
            Due.is("the sign of " + v, t.of(0, 0), Long.signum(v));
            Due.is("whether " + v + " is WHOLE", t.of(0, 1), 1);
            Due.is("the D of " + v, t.limb(0, 1, 0), 1);
        }
    }

    /** "2 to the 32 n .. NegativeArraySizeException: n is below 0." */
    private static void promise3() {
        for (int i = 0; i < 16; i++) {
            int n = i;
            Due.makes("shifted(" + n + ")", Counted::new, t -> t.shifted(n), BigInteger.TWO.pow(32 * n));
            Counted t = new Counted();
            t.shifted(n);
            for (int k = 0; k <= n; k++) {
                Due.is("limb " + k + " of shifted(" + n + ")", t.limb(0, 0, k), k == n ? 1 : 0);
            }
        }
        Due.makes("shifted(0), the last that does not throw", Counted::new, t -> t.shifted(0), 1);
        thrown("shifted(-1), the first that does", t -> t.shifted(-1), NegativeArraySizeException.class, 5);
        thrown("shifted(-2)", t -> t.shifted(-2), NegativeArraySizeException.class, 5);
        thrown("shifted(least)", t -> t.shifted(Integer.MIN_VALUE), NegativeArraySizeException.class, 5);
    }

    /** "a / b: its number." In least terms, D above 0. */
    private static void promise4() {
        makes("6 / 4", t -> t.over(0, 1), "3/2", 6, 4);
        makes("6 / -4", t -> t.over(0, 1), "-3/2", 6, -4);
        makes("-6 / 4", t -> t.over(0, 1), "-3/2", -6, 4);
        makes("-6 / -4", t -> t.over(0, 1), "3/2", -6, -4);
        makes("4 / 6", t -> t.over(1, 0), "2/3", 6, 4);
        makes("-4 / -4", t -> t.over(0, 0), "1", -4);
        makes("6 / -3", t -> t.over(0, 1), "-2", 6, -3);
        makes("6 / (1/2)", t -> t.over(0, 1), "12", 6, "1/2");
        makes("(-3/4) / (9/8)", t -> t.over(0, 1), "-2/3", "-3/4", "9/8");
        makes("6 / greatest", t -> t.over(0, 1), "2/" + GREATEST.divide(BigInteger.valueOf(3)), 6, GREATEST);
        makes("greatest / greatest", t -> t.over(0, 0), "1", GREATEST);
        // 0 is 0 / 1
        makes("0 / 5", t -> t.over(0, 1), "0", 0, 5);
        makes("0 / -5", t -> t.over(0, 1), "0", 0, -5);
        makes("0 / (-7/3)", t -> t.over(0, 1), "0", 0, "-7/3");
        // the numbers next to 0 do not throw
        makes("0 / the least above 0", t -> t.over(0, 1), "0", 0, "1/" + GREATEST);
        makes("1 / the greatest below 0", t -> t.over(0, 1), GREATEST.negate(), 1, "-1/" + GREATEST);
        thrown("6 / 0", t -> t.over(0, 1), ARITHMETIC, 6, 0);
        thrown("-1/2 / 0", t -> t.over(0, 1), ARITHMETIC, "-1/2", 0);
        thrown("0 / 0", t -> t.over(0, 0), ARITHMETIC, 0);
    }

    private static void sumsAndProducts() {
        Object[] held = {"1/6", "-3/10", 0};
        makes("1/6 + -3/10", t -> t.apply(0, 0, 1), "-2/15", held);
        makes("-3/10 + 1/6", t -> t.apply(0, 1, 0), "-2/15", held);
        makes("1/6 - -3/10", t -> t.apply(1, 0, 1), "7/15", held);
        makes("-3/10 - 1/6", t -> t.apply(1, 1, 0), "-7/15", held);
        makes("1/6 times -3/10", t -> t.apply(2, 0, 1), "-1/20", held);
        makes("-3/10 squared", t -> t.apply(2, 1, 1), "9/100", held);
        makes("1/6 + 1/6", t -> t.apply(0, 0, 0), "1/3", held);
        makes("1/6 - 1/6", t -> t.apply(1, 0, 0), "0", held);
        makes("0 + -3/10", t -> t.apply(0, 2, 1), "-3/10", held);
        makes("0 - -3/10", t -> t.apply(1, 2, 1), "3/10", held);
        makes("0 - 1/6", t -> t.apply(1, 2, 0), "-1/6", held);
        // only op 3 has a divisor
        makes("1/6 + 0", t -> t.apply(0, 0, 2), "1/6", held);
        makes("-3/10 - 0", t -> t.apply(1, 1, 2), "-3/10", held);
        makes("1/6 times 0", t -> t.apply(2, 0, 2), "0", held);
        makes("0 times -3/10", t -> t.apply(2, 2, 1), "0", held);
        makes("0 + 0", t -> t.apply(0, 2, 2), "0", held);
        makes("-1/2 + 1/2", t -> t.apply(0, 0, 1), "0", "-1/2", "1/2");
        makes("1/2 + 1/2, a WHOLE", t -> t.apply(0, 0, 0), "1", "1/2");
        makes("a carry through all limbs", t -> t.apply(0, 0, 1), BigInteger.TWO.pow(480), BigInteger.TWO.pow(480).subtract(BigInteger.ONE), 1);
        makes("a borrow through all limbs", t -> t.apply(1, 0, 1), BigInteger.TWO.pow(480).subtract(BigInteger.ONE), BigInteger.TWO.pow(480), 1);
        int[] noOps = {-1, 4, 5, 7, Integer.MIN_VALUE, Integer.MAX_VALUE};
        for (int op : noOps) {
            refused("op " + op, t -> t.apply(op, 0, 1), BAD, held);
        }
    }

    /** "3 the rest: a less b times the greatest whole number not above a / b .. ArithmeticException: 3, b is 0." */
    private static void rests() {
        String[][] rows = {
            {"7", "2", "1"}, {"-7", "2", "1"}, {"7", "-2", "-1"}, {"-7", "-2", "-1"}, {"6", "-2", "0"}, {"-6", "2", "0"},
            {"6", "2", "0"}, {"-6", "-2", "0"}, {"0", "-2", "0"}, {"1", "3", "1"}, {"-1", "3", "2"}, {"1", "-3", "-2"}, {"-1", "-3", "-1"},
            {"1/6", "-3/10", "-2/15"}, {"-3/10", "1/6", "1/30"}, {"5/2", "1/3", "1/6"}, {"-5/2", "1/3", "1/6"}, {"5/2", "1", "1/2"},
            {"-5/2", "1", "1/2"}, {"7/3", "7/3", "0"}, {"7/3", "-7/3", "0"}, {"" + GREATEST, "10", GREATEST.mod(BigInteger.TEN).toString()},
        };
        for (String[] row : rows) {
            makes("the rest of " + row[0] + " by " + row[1], t -> t.apply(3, 0, 1), row[2], row[0], row[1]);
        }
        makes("the rest by the least above 0", t -> t.apply(3, 0, 1), "0", 5, "1/" + GREATEST);
        makes("the rest by the greatest below 0", t -> t.apply(3, 0, 1), "0", 5, "-1/" + GREATEST);
        thrown("the rest of 5 by 0", t -> t.apply(3, 0, 1), ARITHMETIC, 5, 0);
        thrown("the rest of 0 by 0", t -> t.apply(3, 0, 0), ARITHMETIC, 0);
        thrown("the rest of -1/2 by 0", t -> t.apply(3, 0, 1), ARITHMETIC, "-1/2", 0);
    }

    /** "a to the n-th, n -512 .. 512 (to the 0th: 1)" */
    private static void promise6() {
        String[][] rows = {
            {"-2/3", "3", "-8/27"}, {"-2/3", "4", "16/81"}, {"-2/3", "-3", "-27/8"}, {"-2/3", "-4", "81/16"}, {"-2/3", "1", "-2/3"},
            {"-2/3", "-1", "-3/2"}, {"5", "-1", "1/5"}, {"-5", "-1", "-1/5"}, {"1/5", "-2", "25"}, {"-1/5", "-3", "-125"}, {"2", "31", "2147483648"},
            {"3", "6", "729"}, {"-2/3", "0", "1"}, {"7", "0", "1"}, {"0", "0", "1"}, {"0", "1", "0"}, {"0", "2", "0"}, {"0", "512", "0"},
            {"1", "512", "1"}, {"1", "-512", "1"}, {"-1", "512", "1"}, {"-1", "-512", "1"}, {"-1", "511", "-1"}, {"-1", "-511", "-1"},
        };
        for (String[] row : rows) {
            int n = Integer.parseInt(row[1]);
            makes(row[0] + " to the " + n, t -> t.power(0, n), row[2], row[0]);
        }
        int[] tooFar = {-513, 513, -1024, 1024, Integer.MIN_VALUE, Integer.MAX_VALUE};
        for (int n : tooFar) {
            refused("1 to the " + n, t -> t.power(0, n), BAD, 1);
            refused("0 to the " + n, t -> t.power(0, n), BAD, 0);
        }
        int[] below = {-1, -2, -511, -512};
        for (int n : below) {
            thrown("0 to the " + n, t -> t.power(0, n), ARITHMETIC, 0);
        }
        makes("the least above 0 to the -1", t -> t.power(0, -1), GREATEST, "1/" + GREATEST);
    }

    /** "how 0 the greatest one not above, 1 the least not below, 2 the nearest (of two the even one), 3 cut towards 0" */
    private static void promise7() {
        String[][] rows = {
            {"7/3", "2", "3", "2", "2"}, {"-7/3", "-3", "-2", "-2", "-2"}, {"8/3", "2", "3", "3", "2"}, {"-8/3", "-3", "-2", "-3", "-2"},
            {"1/2", "0", "1", "0", "0"}, {"-1/2", "-1", "0", "0", "0"}, {"3/2", "1", "2", "2", "1"}, {"-3/2", "-2", "-1", "-2", "-1"},
            {"5/2", "2", "3", "2", "2"}, {"-5/2", "-3", "-2", "-2", "-2"}, {"7/2", "3", "4", "4", "3"}, {"-7/2", "-4", "-3", "-4", "-3"},
            {"1/3", "0", "1", "0", "0"}, {"-1/3", "-1", "0", "0", "0"}, {"2/3", "0", "1", "1", "0"}, {"-2/3", "-1", "0", "-1", "0"},
            {"0", "0", "0", "0", "0"}, {"9", "9", "9", "9", "9"}, {"-9", "-9", "-9", "-9", "-9"},
            {"4999999999/10000000000", "0", "1", "0", "0"}, {"5000000001/10000000000", "0", "1", "1", "0"},
            {"25000000001/10000000000", "2", "3", "3", "2"}, {"-35000000001/10000000000", "-4", "-3", "-4", "-3"},
            {"8589934591/2", "4294967295", "4294967296", "4294967296", "4294967295"},
            {"" + GREATEST, "" + GREATEST, "" + GREATEST, "" + GREATEST, "" + GREATEST},
            {"1/" + GREATEST, "0", "1", "0", "0"}, {"-1/" + GREATEST, "-1", "0", "0", "0"},
        };
        for (String[] row : rows) {
            for (int how = 0; how < 4; how++) {
                int way = how;
                makes("near " + row[0] + ", " + how, t -> t.near(0, way), row[how + 1], row[0]);
            }
        }
        BigInteger half = BigInteger.TWO.pow(511);
        makes("the widest up", t -> t.near(0, 1), half, GREATEST + "/2");
        makes("the widest to the even", t -> t.near(0, 2), half, GREATEST + "/2");
        makes("the widest down", t -> t.near(0, 0), half.negate(), GREATEST.negate() + "/2");
        makes("the widest cut", t -> t.near(0, 3), half.subtract(BigInteger.ONE), GREATEST + "/2");
        int[] noWays = {-1, 4, Integer.MIN_VALUE, Integer.MAX_VALUE};
        for (int how : noWays) {
            refused("near in the way " + how, t -> t.near(0, how), BAD, "7/3");
        }
    }

    /** "The greatest common divisor of two WHOLES (of 0 and 0: 0) .. NO: one is none." */
    private static void promise8() {
        BigInteger p = BigInteger.valueOf(3).pow(200);
        String c = p.multiply(BigInteger.TWO.pow(190)).toString();
        String d = p.multiply(BigInteger.valueOf(5).pow(80)).toString();
        Object[][] rows = {
            {84, 30, 6}, {-84, 30, 6}, {84, -30, 6}, {-84, -30, 6}, {30, 84, 6}, {7, 9, 1}, {1, -1, 1}, {0, -84, 84}, {-84, 0, 84}, {0, 1, 1},
            {0, 0, 0}, {12, 12, 12}, {GREATEST, GREATEST.negate(), GREATEST}, {0, GREATEST.negate(), GREATEST}, {c, d, p},
            {Long.MIN_VALUE, Long.MIN_VALUE, "9223372036854775808"},
        };
        for (Object[] row : rows) {
            makes("common of " + row[0] + ", " + row[1], t -> t.common(0, 1), row[2], row[0], row[1]);
        }
        refused("common of a half", t -> t.common(0, 1), NO, "1/2", 6);
        refused("common with a half", t -> t.common(1, 0), NO, "1/2", 6);
        refused("common of two halves", t -> t.common(0, 0), NO, "1/2");
        refused("common of 0 and a half", t -> t.common(1, 0), NO, "-1/2", 0);
    }

    /** "A NUMBER is dropped: how many are left." and "How many NUMBERS there are." */
    private static void promises9And10() {
        Counted t = Counted.holding(10, 11, 12, 13, 14);
        Due.is("count", t.count(), 5);
        Due.is("drop(3)", t.drop(3), 4);
        Due.is("drop(1)", t.drop(1), 3);
        Due.is("count behind drops", t.count(), 3);
        Due.is("drop(1) again", t.drop(1), BAD);
        Due.is("count behind a refusal", t.count(), 3);
        Due.is("the others", t.value(0) + " " + t.value(2) + " " + t.value(4), "10 12 14");
        Due.is("of a dropped one", t.of(3, 1), BAD);
        Due.is("drop(0)", t.drop(0), 2);
        Due.is("drop(4)", t.drop(4), 1);
        Due.is("drop(2), the last", t.drop(2), 0);
        Due.is("count of none", t.count(), 0);
        Due.is("drop of none", t.drop(2), BAD);
        Counted full = new Counted().full();
        Due.is("count of 24", full.count(), 24);
        Due.is("drop of 24", full.drop(23), 23);
        Due.refused("drop of a dropped one", () -> Counted.holding(1, 2).dropped(0).written(1), x -> x.drop(0), BAD);
    }

    /** "1 if a is above b, 0 if they are the same, -1 if below (as BAD, too)." */
    private static void promise11() {
        String[] rising = {
            "-" + GREATEST, "-7/3", "-2", "-1/" + GREATEST, "0", "1/" + GREATEST, "1/3", "333333334/1000000000", "1/2", "1", "" + GREATEST,
        };
        for (int i = 0; i < rising.length; i++) {
            for (int j = 0; j < rising.length; j++) {
                Counted t = Counted.holding(rising[i], rising[j]);
                Due.is("compare " + rising[i] + ", " + rising[j], t.compare(0, 1), Integer.compare(i, j));
                Due.is("count behind compare", t.count(), 2);
            }
        }
        Due.answers("compare 2/4, 1/2", () -> Counted.holding("2/4", "1/2"), t -> t.compare(0, 1), 0);
        Due.answers("compare one with itself", () -> Counted.holding("-7/3"), t -> t.compare(0, 0), 0);
        refused("compare with none, which is no number to be above", t -> t.compare(0, 1), BAD, GREATEST);
        // two that are the same but for their lowest limb, and but for their highest
        BigInteger wide = BigInteger.TWO.pow(300);
        Due.answers("the lowest limb", () -> Counted.holding(wide, wide.add(BigInteger.ONE)), t -> t.compare(0, 1), -1);
        Due.answers("the highest limb", () -> Counted.holding(wide.shiftLeft(1), wide.add(wide.shiftRight(1))), t -> t.compare(0, 1), 1);
        Due.answers("limbs above 2^31", () -> Counted.holding(0x80000000L, 0x7fffffffL), t -> t.compare(0, 1), 1);
    }

    /** "0 its sign (-1, 0, 1 ..), 1 whether it is WHOLE (1, 0), 2, 3 how many bits N (its size), D have." */
    private static void promise12() {
        Object[][] rows = {
            {0, 0, 1, 0, 1}, {1, 1, 1, 1, 1}, {-1, -1, 1, 1, 1}, {"-9/16", -1, 0, 4, 5}, {"1/2", 1, 0, 1, 2}, {"-6/3", -1, 1, 2, 1},
            {0xffffffffL, 1, 1, 32, 1}, {0x100000000L, 1, 1, 33, 1}, {0x7fffffffL, 1, 1, 31, 1}, {0x80000000L, 1, 1, 32, 1},
            {Long.MIN_VALUE, -1, 1, 64, 1}, {GREATEST, 1, 1, 512, 1}, {GREATEST.negate(), -1, 1, 512, 1}, {BigInteger.TWO.pow(511), 1, 1, 512, 1},
            {BigInteger.TWO.pow(511).subtract(BigInteger.ONE), 1, 1, 511, 1}, {"1/" + GREATEST, 1, 0, 1, 512}, {"-3/" + BigInteger.TWO.pow(511), -1, 0, 2, 512},
        };
        for (Object[] row : rows) {
            Counted t = Counted.holding(row[0]);
            for (int what = 0; what < 4; what++) {
                Due.is("of " + row[0] + ", " + what, t.of(0, what), (Integer) row[what + 1]);
            }
        }
        int[] none = {-1, 4, 5, Integer.MIN_VALUE, Integer.MAX_VALUE};
        for (int what : none) {
            refused("of, " + what, t -> t.of(0, what), BAD, 3);
        }
    }

    private static void limbs(String fraction, int part, int... want) {
        Supplier<Counted> start = () -> Counted.holding(fraction).written(0);
        for (int i = 0; i < want.length; i++) {
            int k = i;
            Due.answers("limb " + i + " of part " + part + " of " + fraction, start, t -> t.limb(0, part, k), want[i]);
        }
        int[] none = {want.length, want.length + 1, 16, 17, 36, -1, -2, Integer.MIN_VALUE, Integer.MAX_VALUE};
        for (int i : none) {
            Due.thrown("limb " + i + " of part " + part + " of " + fraction, start, t -> t.limb(0, part, i), ArrayIndexOutOfBoundsException.class);
        }
    }

    /** "ArrayIndexOutOfBoundsException: i is not 0 .. one less than as many as its bits take (none of 0)." */
    private static void promise13() {
        BigInteger n = new BigInteger("fedcba98765432100000000080000001", 16);
        String a = "-" + n + "/" + BigInteger.TWO.pow(64);
        limbs(a, 0, 0x80000001, 0, 0x76543210, 0xfedcba98);
        limbs(a, 1, 0, 0, 1);
        limbs("0", 0);
        limbs("0", 1, 1);
        limbs("1", 0, 1);
        limbs("-4294967295", 0, -1);
        limbs("-4294967296", 0, 0, 1);
        limbs("1/4294967295", 1, -1);
        limbs("1/4294967296", 1, 0, 1);
        Counted t = Counted.holding(GREATEST, "1/" + GREATEST);
        for (int i = 0; i < 16; i++) {
            Due.is("limb " + i + " of the greatest N", t.limb(0, 0, i), -1);
            Due.is("limb " + i + " of the greatest D", t.limb(1, 1, i), -1);
        }
        thrown("limb 16 of the greatest N", x -> x.limb(0, 0, 16), ArrayIndexOutOfBoundsException.class, GREATEST);
        thrown("limb 16 of the greatest D", x -> x.limb(0, 1, 16), ArrayIndexOutOfBoundsException.class, "1/" + GREATEST);
        Supplier<Counted> again = () -> {
            Counted x = Counted.holding(GREATEST).dropped(0);
            x.whole(7);
            return x;
        };
        Due.thrown("limb 1 of a short one where a wide one was", again, x -> x.limb(0, 0, 1), ArrayIndexOutOfBoundsException.class);
        int[] none = {-1, 2, 3, Integer.MIN_VALUE, Integer.MAX_VALUE};
        for (int part : none) {
            refused("limb of the part " + part, x -> x.limb(0, part, 0), BAD, "7/3");
        }
    }

    public static void main(String[] args) {
        promise1();
        promise2();
        promise3();
        promise4();
        sumsAndProducts();
        rests();
        promise6();
        promise7();
        promise8();
        promises9And10();
        promise11();
        promise12();
        promise13();
        Due.end("NumbersTest");
    }
}
