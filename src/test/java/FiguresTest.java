import java.math.BigInteger;

/** Promises 22 to 27: the tape, what is read from it, and what is written. */
public final class FiguresTest {
    private static final BigInteger GREATEST = BigInteger.TWO.pow(512).subtract(BigInteger.ONE);

    private static void promise22() {
        LeastTerms x = new LeastTerms();
        Due.refused(x, "feed(-1)", () -> x.feed(-1), LeastTerms.BAD);
        Due.refused(x, "feed(256)", () -> x.feed(256), LeastTerms.BAD);
        Due.is("feed(0)", x.feed(0), 1);
        Due.is("feed(255)", x.feed(255), 2);
        for (int i = 3; i <= 400; i++) {
            Due.is("feed the " + i + "th", x.feed('1'), i);
        }
        Due.refused(x, "feed the 401st", () -> x.feed('1'), LeastTerms.FULL);
        Due.refused(x, "feed(256) the 401st", () -> x.feed(256), LeastTerms.BAD);
        Due.is("read of it", x.read(), -10);
        Due.is("feed behind read", x.feed('1'), 1);
    }

    private static String ones(int n) {
        return "1".repeat(n);
    }

    private static void faults() {
        String[][] rows = {
            {"", "0"}, {"-", "1"}, {"--1", "1"}, {"+1", "0"}, {"x", "0"}, {" 1", "0"}, {"1 ", "1"}, {"1-", "1"},
            {"1/", "2"}, {"1/-2", "2"}, {"1/2/3", "3"}, {"1/2.5", "3"}, {".5", "0"}, {"-.5", "1"}, {"5.", "2"},
            {"-5.", "3"}, {"5..5", "2"}, {"5./5", "2"}, {"5.5/5", "3"}, {"5.5.5", "3"}, {"5.-5", "2"}, {"/5", "0"}, {"5e5", "1"},
            {"1\u00b1", "1"}, {"\u00b1", "0"}, {"1/\u00ff", "2"}, {"1\u0000", "1"}, {"1:", "1"}, {"1/2:", "3"},
            {ones(161), "160"}, {"-" + ones(161), "161"}, {ones(200) + "x", "160"}, {"1/" + ones(161), "162"},
            {ones(160) + "x", "160"}, {ones(160) + "/" + ones(161), "321"}, {ones(161) + "/1", "160"},
            {ones(80) + "." + ones(81), "161"}, {"1." + ones(160), "161"}, {ones(160) + ".", "161"}, {ones(160) + ".1", "161"},
            {ones(159) + ".11", "161"}, {"-" + ones(159) + ".1x", "162"}, {"1/" + ones(160) + "/", "162"}, {"0/", "2"},
        };
        LeastTerms x = new LeastTerms();
        for (String[] row : rows) {
            Due.is("read of " + row[0], Due.read(x, row[0]), -10 - Integer.parseInt(row[1]));
            Due.is("the tape behind " + row[0], x.feed('7'), 1);
            Due.is("7", Due.made(x, x.read()), "7");
        }
        Due.fill(x);
        for (String[] row : rows) {
            Due.feed(x, row[0]);
            Due.refused(x, "read of " + row[0] + " with 24", () -> x.read(), -10 - Integer.parseInt(row[1]));
        }
    }

    private static void promise23() {
        LeastTerms x = new LeastTerms();
        BigInteger nines = BigInteger.TEN.pow(160).subtract(BigInteger.ONE);
        BigInteger ten = BigInteger.TEN;
        String[][] rows = {
            {"0", "0"}, {"-0", "0"}, {"-0/7", "0"}, {"-0.0", "0"}, {"007", "7"}, {"-12", "-12"}, {"6/4", "3/2"}, {"-6/04", "-3/2"},
            {"0.5", "1/2"}, {"-12.50", "-25/2"}, {"00.125", "1/8"}, {"10/5", "2"}, {"3.00", "3"},
            {"0".repeat(159) + "5", "5"}, {"1/" + "0".repeat(159) + "5", "1/5"}, {"0." + "0".repeat(158) + "0", "0"},
            {nines + "/" + nines, "1"}, {"-" + nines + "/" + nines.divide(BigInteger.valueOf(3)), "-3"},
            {"1" + "0".repeat(158) + ".0", "refused -4"},
            {ten.pow(154).toString(), ten.pow(154).toString()}, {ten.pow(159) + "/" + ten.pow(155), "10000"},
            {GREATEST.toString(), GREATEST.toString()}, {"1/" + GREATEST, "1/" + GREATEST},
            {"0." + "0".repeat(153) + "1", "1/" + ten.pow(154)}, {"0." + "0".repeat(154) + "1", "refused -4"},
            {"0." + "0".repeat(158) + "5", "refused -4"}, {GREATEST.add(BigInteger.ONE).toString(), "refused -4"},
            {"1/" + GREATEST.add(BigInteger.ONE), "refused -4"}, {"2/" + GREATEST.add(BigInteger.ONE), "1/" + BigInteger.TWO.pow(511)},
        };
        for (String[] row : rows) {
            Due.is("read of " + row[0], Due.made(x, Due.read(x, row[0])), row[1]);
            Due.is("the tape behind " + row[0], x.read(), -10);
        }
        int zero = Due.read(x, "-0");
        Due.is("the sign of -0", x.of(zero, 0), 0);
        String[] byZero = {"1/0", "0/0", "-5/000", nines + "/0"};
        for (String s : byZero) {
            Due.feed(x, s);
            Due.thrown(x, "read of " + s, () -> x.read(), ArithmeticException.class);
            Due.is("the tape behind " + s, x.read(), -10);
        }
        readWithAllPlaces(x);
    }

    private static void readWithAllPlaces(LeastTerms x) {
        Due.fill(x);
        Due.feed(x, "1/0");
        Due.refused(x, "read of 1/0 with 24", () -> x.read(), LeastTerms.FULL);
        Due.is("the tape behind FULL", x.feed('5'), 4);
        Due.refused(x, "read of 1/05 with 24", () -> x.read(), LeastTerms.FULL);
        x.drop(23);
        Due.is("read of 1/05", x.read(), 23);
        Due.is("what was read", Due.text(x, 23), "1/5");
        Due.is("the tape behind it", x.read(), -10);
        Due.feed(x, nines160());
        Due.refused(x, "read of a wide one with 24", () -> x.read(), LeastTerms.FULL);
        x.drop(5);
        Due.refused(x, "read of a wide one", () -> x.read(), LeastTerms.WIDE);
        Due.is("the tape behind WIDE", x.read(), -10);
    }

    private static String nines160() {
        return "9".repeat(160);
    }

    private static void promise24() {
        LeastTerms x = new LeastTerms();
        String[] rows = {"0", "-1", "10", "1000000000", "-7/3", "1/10", "" + GREATEST, "-" + GREATEST + "/" + GREATEST.subtract(BigInteger.ONE)};
        for (String s : rows) {
            int a = Due.read(x, s);
            Due.is("length of " + s, x.text(a), s.length());
            Due.is("text of " + s, Due.out(x), s);
            x.drop(a);
        }
        Due.refused(x, "text of none", () -> x.text(0), LeastTerms.BAD);
        Due.refused(x, "text of -1", () -> x.text(-1), LeastTerms.BAD);
    }

    private static String cut(LeastTerms x, int a, int n) {
        int length = x.figures(a, n);
        Due.is("the length of figures", length, Due.out(x).length());
        return Due.out(x);
    }

    private static void promise25() {
        LeastTerms x = new LeastTerms();
        String[][] rows = {
            {"22/7", "0", "3"}, {"22/7", "1", "3.1"}, {"22/7", "7", "3.1428571"}, {"-2/3", "3", "-0.666"},
            {"-2/3", "0", "-0"}, {"-1/1000", "2", "-0.00"}, {"5", "2", "5.00"}, {"0", "3", "0.000"}, {"0", "0", "0"},
            {"-" + GREATEST, "100", "-" + GREATEST + "." + "0".repeat(100)}, {"1/3", "100", "0." + "3".repeat(100)},
            {"19/20", "1", "0.9"}, {"1/" + GREATEST, "100", "0." + "0".repeat(100)},
        };
        for (String[] row : rows) {
            int a = Due.read(x, row[0]);
            Due.is("figures of " + row[0], cut(x, a, Integer.parseInt(row[1])), row[2]);
            x.drop(a);
        }
        int a = x.whole(1);
        Due.refused(x, "figures(a, 101)", () -> x.figures(a, 101), LeastTerms.BAD);
        Due.refused(x, "figures(a, -1)", () -> x.figures(a, -1), LeastTerms.BAD);
        Due.refused(x, "figures of none", () -> x.figures(9, 1), LeastTerms.BAD);
    }

    private static void promise26() {
        LeastTerms x = new LeastTerms();
        Due.is("out at first", x.out(0), LeastTerms.NONE);
        int a = Due.read(x, "-1/2");
        x.text(a);
        String s = "-1/2";
        for (int i = 0; i < 4; i++) {
            Due.is("out(" + i + ")", x.out(i), s.charAt(i));
        }
        Due.is("out(4)", x.out(4), LeastTerms.NONE);
        Due.is("out(-1)", x.out(-1), LeastTerms.NONE);
        Due.is("out(most)", x.out(Integer.MAX_VALUE), LeastTerms.NONE);
        x.drop(a);
        Due.is("out behind drop", Due.out(x), s);
        x.text(x.whole(7));
        Due.is("out of a shorter text", Due.out(x), "7");
    }

    private static void promise27() {
        LeastTerms x = new LeastTerms();
        String[][] rows = {
            {"0", "0", "0"}, {"-8", "0", "0"}, {"1/2", "1", "0"}, {"1/3", "0", "1"}, {"-1/6", "1", "1"}, {"1/7", "0", "6"},
            {"1/12", "2", "1"}, {"1/28", "2", "6"}, {"3/40", "3", "0"}, {"1/49", "0", "42"}, {"1/81", "0", "9"},
            {"1/99989", "0", "99988"}, {"1/99999", "0", "5"}, {"1/487", "0", "486"}, {"1/237169", "-2", "-2"},
            {"1/100001", "-2", "-2"}, {"1/200000", "6", "0"}, {"1/199998", "1", "5"}, {"1/200002", "-2", "-2"},
            {"1/" + BigInteger.TWO.pow(511), "511", "0"}, {"1/" + BigInteger.valueOf(5).pow(220), "220", "0"},
            {"1/" + BigInteger.TEN.pow(150).multiply(BigInteger.valueOf(7)), "150", "6"}, {"1/" + GREATEST, "-2", "-2"},
        };
        for (String[] row : rows) {
            int a = Due.read(x, row[0]);
            Due.is("period(" + row[0] + ", 0)", x.period(a, 0), Integer.parseInt(row[1]));
            Due.is("period(" + row[0] + ", 1)", x.period(a, 1), Integer.parseInt(row[2]));
            x.drop(a);
        }
        int a = Due.read(x, "1/100001");
        Due.refused(x, "period(a, 2)", () -> x.period(a, 2), LeastTerms.BAD);
        Due.refused(x, "period(a, -1)", () -> x.period(a, -1), LeastTerms.BAD);
        Due.refused(x, "period of none", () -> x.period(9, 1), LeastTerms.BAD);
        Due.refused(x, "period(a, 0)", () -> x.period(a, 0), LeastTerms.NO);
    }

    /** Each D up to some bound, and the last ones that have an answer, against long division. */
    private static void periodsOfAll() {
        LeastTerms x = new LeastTerms();
        int one = x.whole(1);
        for (int d = 1; d <= 100000; d += d < 3000 || d >= 99900 ? 1 : 97) {
            int below = x.whole(d);
            int a = x.over(one, below);
            int odd = d;
            int ahead = 0;
            int rest = 1 % d;
            while (odd % 2 == 0) {
                odd /= 2;
            }
            while (odd % 5 == 0) {
                odd /= 5;
            }
            for (int k = d / odd; k > 1 && rest % (d / odd) != 0; ahead++) {
                rest = (int) (rest * 10L % d);
            }
            int first = rest;
            int again = 0;
            while (rest != 0 && (again == 0 || rest != first)) {
                rest = (int) (rest * 10L % d);
                again++;
            }
            Due.is("period(1/" + d + ", 0)", x.period(a, 0), ahead);
            Due.is("period(1/" + d + ", 1)", x.period(a, 1), again);
            x.drop(below);
            x.drop(a);
        }
    }

    public static void main(String[] args) {
        promise22();
        faults();
        promise23();
        promise24();
        promise25();
        promise26();
        promise27();
        periodsOfAll();
        Due.end("FiguresTest");
    }
}
