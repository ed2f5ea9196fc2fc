import java.math.BigInteger;

/** Promises 1 to 13: the NUMBERS, how they are reckoned and looked at. */
public final class NumbersTest {
    private static final BigInteger TWO_512 = BigInteger.TWO.pow(512);
    private static final BigInteger GREATEST = TWO_512.subtract(BigInteger.ONE);

    private static int put(LeastTerms x, String s) {
        int a = Due.read(x, s);
        if (a < 0) {
            Due.tell("read of " + s + " answered " + a);
        }
        return a;
    }

    private static void promise1() {
        LeastTerms x = new LeastTerms();
        Due.is("count of a new object", x.count(), 0);
        Due.is("out of a new object", x.out(0), LeastTerms.NONE);
        Due.is("read of a new object", x.read(), -10);
        Due.is("of of a new object", x.of(0, 3), LeastTerms.BAD);
        Due.is("feed of a new object", x.feed('1'), 1);
    }

    private static void promise2() {
        LeastTerms x = new LeastTerms();
        long[] values = {0, 1, -1, 7, 4294967295L, 4294967296L, -4294967296L, Long.MAX_VALUE, Long.MIN_VALUE};
        for (long v : values) {
            Due.is("whole(" + v + ")", Due.made(x, x.whole(v)), "" + v);
        }
        for (int i = 0; i < 24; i++) {
            Due.is("whole's place", x.whole(i), i);
        }
        Due.refused(x, "whole with 24", () -> x.whole(1), LeastTerms.FULL);
    }

    private static void promise3() {
        LeastTerms x = new LeastTerms();
        for (int n = 0; n < 16; n++) {
            Due.is("shifted(" + n + ")", Due.made(x, x.shifted(n)), BigInteger.TWO.pow(32 * n).toString());
        }
        Due.refused(x, "shifted(16)", () -> x.shifted(16), LeastTerms.WIDE);
        Due.refused(x, "shifted(most)", () -> x.shifted(Integer.MAX_VALUE), LeastTerms.WIDE);
        Due.thrown(x, "shifted(-1)", () -> x.shifted(-1), NegativeArraySizeException.class);
        Due.thrown(x, "shifted(least)", () -> x.shifted(Integer.MIN_VALUE), NegativeArraySizeException.class);
        Due.fill(x);
        Due.refused(x, "shifted(0) with 24", () -> x.shifted(0), LeastTerms.FULL);
        Due.refused(x, "shifted(16) with 24", () -> x.shifted(16), LeastTerms.FULL);
        Due.thrown(x, "shifted(-1) with 24", () -> x.shifted(-1), NegativeArraySizeException.class);
    }

    private static void promise4() {
        LeastTerms x = new LeastTerms();
        int six = x.whole(6);
        int minusFour = x.whole(-4);
        int zero = x.whole(0);
        int half = put(x, "1/2");
        int greatest = put(x, GREATEST.toString());
        Due.is("6 / -4", Due.made(x, x.over(six, minusFour)), "-3/2");
        Due.is("-4 / -4", Due.made(x, x.over(minusFour, minusFour)), "1");
        Due.is("0 / -4", Due.made(x, x.over(zero, minusFour)), "0");
        Due.is("6 / (1/2)", Due.made(x, x.over(six, half)), "12");
        Due.is("greatest / greatest", Due.made(x, x.over(greatest, greatest)), "1");
        Due.is("6 / greatest", Due.made(x, x.over(six, greatest)), "2/" + GREATEST.divide(BigInteger.valueOf(3)));
        Due.refused(x, "greatest / (1/2)", () -> x.over(greatest, half), LeastTerms.WIDE);
        Due.refused(x, "(1/2) / greatest", () -> x.over(half, greatest), LeastTerms.WIDE);
        Due.thrown(x, "6 / 0", () -> x.over(six, zero), ArithmeticException.class);
        Due.thrown(x, "0 / 0", () -> x.over(zero, zero), ArithmeticException.class);
        Due.refused(x, "over(6, 9)", () -> x.over(six, 9), LeastTerms.BAD);
        Due.refused(x, "over(-1, 0)", () -> x.over(-1, zero), LeastTerms.BAD);
        Due.refused(x, "over(24, 0)", () -> x.over(24, zero), LeastTerms.BAD);
        Due.fill(x);
        Due.refused(x, "over with 24", () -> x.over(greatest, half), LeastTerms.FULL);
        Due.thrown(x, "over 0 with 24", () -> x.over(six, zero), ArithmeticException.class);
        Due.refused(x, "over BAD with 24", () -> x.over(six, 24), LeastTerms.BAD);
    }

    private static void promise5() {
        LeastTerms x = new LeastTerms();
        int a = put(x, "1/6");
        int b = put(x, "-3/10");
        int zero = x.whole(0);
        int greatest = put(x, GREATEST.toString());
        int one = x.whole(1);
        Due.is("1/6 + -3/10", Due.made(x, x.apply(0, a, b)), "-2/15");
        Due.is("1/6 - -3/10", Due.made(x, x.apply(1, a, b)), "7/15");
        Due.is("1/6 * -3/10", Due.made(x, x.apply(2, a, b)), "-1/20");
        Due.is("1/6 - 1/6", Due.made(x, x.apply(1, a, a)), "0");
        Due.is("0 - -3/10", Due.made(x, x.apply(1, zero, b)), "3/10");
        Due.is("0 + -3/10", Due.made(x, x.apply(0, zero, b)), "-3/10");
        Due.is("0 * greatest", Due.made(x, x.apply(2, zero, greatest)), "0");
        Due.is("greatest - 1", Due.made(x, x.apply(1, greatest, one)), GREATEST.subtract(BigInteger.ONE).toString());
        // 1/6 by -3/10: the greatest whole number not above -5/9 is -1
        Due.is("rest of 1/6 by -3/10", Due.made(x, x.apply(3, a, b)), "-2/15");
        Due.is("rest of -3/10 by 1/6", Due.made(x, x.apply(3, b, a)), "1/30");
        Due.is("rest of greatest by 1/6", Due.made(x, x.apply(3, greatest, a)), "0");
        Due.is("rest of 0 by 1/6", Due.made(x, x.apply(3, zero, a)), "0");
        Due.refused(x, "greatest + 1", () -> x.apply(0, greatest, one), LeastTerms.WIDE);
        Due.refused(x, "greatest * greatest", () -> x.apply(2, greatest, greatest), LeastTerms.WIDE);
        Due.refused(x, "greatest + 1/6", () -> x.apply(0, greatest, a), LeastTerms.WIDE);
        Due.thrown(x, "rest by 0", () -> x.apply(3, a, zero), ArithmeticException.class);
        Due.refused(x, "op 4", () -> x.apply(4, a, b), LeastTerms.BAD);
        Due.refused(x, "op -1", () -> x.apply(-1, a, zero), LeastTerms.BAD);
        Due.refused(x, "no such a", () -> x.apply(3, 9, zero), LeastTerms.BAD);
        Due.refused(x, "no such b", () -> x.apply(0, a, -1), LeastTerms.BAD);
        int[][] signs = {{7, 2, 1}, {-7, 2, 1}, {7, -2, -1}, {-7, -2, -1}, {6, -2, 0}};
        for (int[] s : signs) {
            int p = x.whole(s[0]);
            int q = x.whole(s[1]);
            Due.is("rest of " + s[0] + " by " + s[1], Due.made(x, x.apply(3, p, q)), "" + s[2]);
            x.drop(p);
            x.drop(q);
        }
        Due.fill(x);
        Due.refused(x, "apply with 24", () -> x.apply(2, greatest, greatest), LeastTerms.FULL);
        Due.thrown(x, "rest by 0 with 24", () -> x.apply(3, a, zero), ArithmeticException.class);
        Due.refused(x, "apply BAD with 24", () -> x.apply(5, a, zero), LeastTerms.BAD);
    }

    private static void promise6() {
        LeastTerms x = new LeastTerms();
        int a = put(x, "-2/3");
        int zero = x.whole(0);
        int two = x.whole(2);
        int minusOne = x.whole(-1);
        Due.is("(-2/3)^3", Due.made(x, x.power(a, 3)), "-8/27");
        Due.is("(-2/3)^-3", Due.made(x, x.power(a, -3)), "-27/8");
        Due.is("(-2/3)^-4", Due.made(x, x.power(a, -4)), "81/16");
        Due.is("(-2/3)^0", Due.made(x, x.power(a, 0)), "1");
        Due.is("(-2/3)^1", Due.made(x, x.power(a, 1)), "-2/3");
        Due.is("0^0", Due.made(x, x.power(zero, 0)), "1");
        Due.is("0^5", Due.made(x, x.power(zero, 5)), "0");
        Due.is("2^511", Due.made(x, x.power(two, 511)), BigInteger.TWO.pow(511).toString());
        Due.is("2^-511", Due.made(x, x.power(two, -511)), "1/" + BigInteger.TWO.pow(511));
        Due.is("-1^512", Due.made(x, x.power(minusOne, 512)), "1");
        Due.is("-1^-511", Due.made(x, x.power(minusOne, -511)), "-1");
        Due.is("3/2^323", Due.made(x, x.power(a, -323)), "-" + BigInteger.valueOf(3).pow(323) + "/" + BigInteger.TWO.pow(323));
        Due.refused(x, "2^512", () -> x.power(two, 512), LeastTerms.WIDE);
        Due.refused(x, "2^-512", () -> x.power(two, -512), LeastTerms.WIDE);
        Due.refused(x, "(-2/3)^324", () -> x.power(a, 324), LeastTerms.WIDE);
        Due.refused(x, "2^513", () -> x.power(two, 513), LeastTerms.BAD);
        Due.refused(x, "0^-513", () -> x.power(zero, -513), LeastTerms.BAD);
        Due.refused(x, "2^least", () -> x.power(two, Integer.MIN_VALUE), LeastTerms.BAD);
        Due.refused(x, "power of none", () -> x.power(9, 2), LeastTerms.BAD);
        Due.thrown(x, "0^-1", () -> x.power(zero, -1), ArithmeticException.class);
        Due.fill(x);
        Due.refused(x, "power with 24", () -> x.power(two, 512), LeastTerms.FULL);
        Due.thrown(x, "0^-1 with 24", () -> x.power(zero, -1), ArithmeticException.class);
        Due.refused(x, "power BAD with 24", () -> x.power(zero, -513), LeastTerms.BAD);
    }

    private static void promise7() {
        LeastTerms x = new LeastTerms();
        String[][] rows = {
            {"7/3", "2", "3", "2", "2"}, {"-7/3", "-3", "-2", "-2", "-2"}, {"8/3", "2", "3", "3", "2"},
            {"5/2", "2", "3", "2", "2"}, {"7/2", "3", "4", "4", "3"}, {"-5/2", "-3", "-2", "-2", "-2"},
            {"-7/2", "-4", "-3", "-4", "-3"}, {"1/2", "0", "1", "0", "0"}, {"-1/2", "-1", "0", "0", "0"},
            {"-1/3", "-1", "0", "0", "0"}, {"0", "0", "0", "0", "0"}, {"-9", "-9", "-9", "-9", "-9"},
        };
        for (String[] row : rows) {
            int a = put(x, row[0]);
            for (int how = 0; how < 4; how++) {
                int b = x.near(a, how);
                Due.is("sign of near " + row[0] + ", " + how, x.of(b, 0), Integer.signum(Integer.parseInt(row[how + 1])));
                Due.is("near " + row[0] + ", " + how, Due.made(x, b), row[how + 1]);
            }
            x.drop(a);
        }
        int greatest = put(x, GREATEST + "/2");
        Due.is("near greatest/2 up", Due.made(x, x.near(greatest, 1)), BigInteger.TWO.pow(511).toString());
        Due.is("near greatest/2", Due.made(x, x.near(greatest, 2)), BigInteger.TWO.pow(511).toString());
        Due.refused(x, "how 4", () -> x.near(greatest, 4), LeastTerms.BAD);
        Due.refused(x, "how -1", () -> x.near(greatest, -1), LeastTerms.BAD);
        Due.refused(x, "near of none", () -> x.near(7, 0), LeastTerms.BAD);
        Due.fill(x);
        Due.refused(x, "near with 24", () -> x.near(greatest, 0), LeastTerms.FULL);
        Due.refused(x, "near BAD with 24", () -> x.near(greatest, 4), LeastTerms.BAD);
    }

    private static void promise8() {
        LeastTerms x = new LeastTerms();
        int a = x.whole(-84);
        int b = x.whole(30);
        int zero = x.whole(0);
        int half = put(x, "1/2");
        Due.is("common of -84, 30", Due.made(x, x.common(a, b)), "6");
        Due.is("common of 0, -84", Due.made(x, x.common(zero, a)), "84");
        Due.is("common of -84, 0", Due.made(x, x.common(a, zero)), "84");
        Due.is("common of 0, 0", Due.made(x, x.common(zero, zero)), "0");
        BigInteger p = BigInteger.valueOf(3).pow(200);
        int c = put(x, p.multiply(BigInteger.TWO.pow(190)).toString());
        int d = put(x, p.multiply(BigInteger.valueOf(5).pow(80)).toString());
        Due.is("common of wide ones", Due.made(x, x.common(c, d)), p.toString());
        Due.refused(x, "common of a half", () -> x.common(half, a), LeastTerms.NO);
        Due.refused(x, "common with a half", () -> x.common(a, half), LeastTerms.NO);
        Due.refused(x, "common of none", () -> x.common(half, 9), LeastTerms.BAD);
        Due.refused(x, "common of -1", () -> x.common(-1, a), LeastTerms.BAD);
        Due.fill(x);
        Due.refused(x, "common with 24", () -> x.common(a, b), LeastTerms.FULL);
        Due.refused(x, "common NO with 24", () -> x.common(a, half), LeastTerms.NO);
    }

    private static void promises9And10() {
        LeastTerms x = new LeastTerms();
        for (int i = 0; i < 5; i++) {
            x.whole(i);
        }
        Due.is("count", x.count(), 5);
        Due.is("drop(3)", x.drop(3), 4);
        Due.is("drop(1)", x.drop(1), 3);
        Due.is("count behind drops", x.count(), 3);
        Due.refused(x, "drop(1) again", () -> x.drop(1), LeastTerms.BAD);
        Due.refused(x, "drop(-1)", () -> x.drop(-1), LeastTerms.BAD);
        Due.refused(x, "drop(5)", () -> x.drop(5), LeastTerms.BAD);
        Due.refused(x, "drop(24)", () -> x.drop(24), LeastTerms.BAD);
        Due.is("of a dropped one", x.of(3, 0), LeastTerms.BAD);
        Due.is("the least place", x.whole(11), 1);
        Due.is("the next place", x.whole(13), 3);
        Due.is("then the last", x.whole(15), 5);
        Due.is("count at the end", x.count(), 6);
        Due.is("what is in place 1", Due.text(x, 1), "11");
    }

    private static void promise11() {
        LeastTerms x = new LeastTerms();
        String[] rising = {"-" + GREATEST, "-7/3", "-2", "-1/" + GREATEST, "0", "1/" + GREATEST, "1/3", "1/2", "2/3", "" + GREATEST};
        for (String s : rising) {
            put(x, s);
        }
        for (int i = 0; i < rising.length; i++) {
            for (int j = 0; j < rising.length; j++) {
                Due.is("compare(" + rising[i] + ", " + rising[j] + ")", x.compare(i, j), Integer.compare(i, j));
            }
        }
        int again = put(x, "2/4");
        Due.is("compare 1/2, 2/4", x.compare(7, again), 0);
        Due.refused(x, "compare none", () -> x.compare(20, 0), LeastTerms.BAD);
        Due.refused(x, "compare with none", () -> x.compare(9, -1), LeastTerms.BAD);
    }

    private static void promise12() {
        LeastTerms x = new LeastTerms();
        int a = put(x, "-9/16");
        int zero = x.whole(0);
        int greatest = put(x, GREATEST.toString());
        int least = x.power(x.whole(2), -511);
        long[][] rows = {{a, -1, 0, 4, 5}, {zero, 0, 1, 0, 1}, {greatest, 1, 1, 512, 1}, {least, 1, 0, 1, 512}};
        for (long[] row : rows) {
            for (int what = 0; what < 4; what++) {
                Due.is("of(" + row[0] + ", " + what + ")", x.of((int) row[0], what), row[what + 1]);
            }
        }
        Due.refused(x, "of 4", () -> x.of(greatest, 4), LeastTerms.BAD);
        Due.refused(x, "of -1", () -> x.of(greatest, -1), LeastTerms.BAD);
        Due.refused(x, "of none", () -> x.of(9, 1), LeastTerms.BAD);
    }

    private static void promise13() {
        LeastTerms x = new LeastTerms();
        BigInteger n = new BigInteger("fedcba98765432100000000080000001", 16);
        int a = put(x, "-" + n + "/" + BigInteger.TWO.pow(64));
        int zero = x.whole(0);
        int greatest = put(x, GREATEST.toString());
        int[] limbs = {0x80000001, 0, 0x76543210, 0xfedcba98};
        for (int i = 0; i < limbs.length; i++) {
            Due.is("limb(a, 0, " + i + ")", x.limb(a, 0, i), limbs[i]);
        }
        Due.is("limb(a, 1, 0)", x.limb(a, 1, 0), 0);
        Due.is("limb(a, 1, 2)", x.limb(a, 1, 2), 1);
        Due.is("limb(greatest, 0, 15)", x.limb(greatest, 0, 15), -1);
        Due.is("limb(0, 1, 0)", x.limb(zero, 1, 0), 1);
        Due.thrown(x, "limb 4 of N", () -> x.limb(a, 0, 4), ArrayIndexOutOfBoundsException.class);
        Due.thrown(x, "limb 3 of D", () -> x.limb(a, 1, 3), ArrayIndexOutOfBoundsException.class);
        Due.thrown(x, "limb -1", () -> x.limb(a, 0, -1), ArrayIndexOutOfBoundsException.class);
        Due.thrown(x, "limb 16", () -> x.limb(greatest, 0, 16), ArrayIndexOutOfBoundsException.class);
        Due.thrown(x, "limb of 0", () -> x.limb(zero, 0, 0), ArrayIndexOutOfBoundsException.class);
        Due.thrown(x, "limb 1 of 1", () -> x.limb(zero, 1, 1), ArrayIndexOutOfBoundsException.class);
        Due.refused(x, "limb of part 2", () -> x.limb(a, 2, 9), LeastTerms.BAD);
        Due.refused(x, "limb of part -1", () -> x.limb(a, -1, 0), LeastTerms.BAD);
        Due.refused(x, "limb of none", () -> x.limb(9, 0, -1), LeastTerms.BAD);
    }

    public static void main(String[] args) {
        promise1();
        promise2();
        promise3();
        promise4();
        promise5();
        promise6();
        promise7();
        promise8();
        promises9And10();
        promise11();
        promise12();
        promise13();
        Due.end("NumbersTest");
    }
}
