import java.math.BigInteger;
import java.util.function.Supplier;

/** Promises 22 to 27: the tape, what is read from it, and what is written. */
public final class FiguresTest {
    private static final Class<ArithmeticException> ARITHMETIC = ArithmeticException.class;
    private static final int BAD = LeastTerms.BAD, NO = LeastTerms.NO, FULL = LeastTerms.FULL, NONE = LeastTerms.NONE;
    private static final BigInteger GREATEST = Counted.GREATEST;

    private static String ones(int n) {
        return "1".repeat(n);
    }

    /** "A byte comes behind THE TAPE: how many it has. BAD: not 0 .. 255" */
    private static void promise22() {
        Counted t = new Counted();
        Due.is("feed(0)", t.feed(0), 1);
        Due.is("feed(255)", t.feed(255), 2);
        Due.is("feed(256)", t.feed(256), BAD);
        Due.is("feed('7') behind it", t.feed('7'), 3);
        Supplier<Counted> start = () -> Counted.holding("7/3").written(0).fed("12");
        int[] none = {-1, 256, 257, 304, -208, Integer.MIN_VALUE, Integer.MAX_VALUE};
        for (int b : none) {
            Due.refused("feed(" + b + ")", start, x -> x.feed(b), BAD);
        }
        for (int b = 0; b < 256; b++) {
            int fed = b;
            Due.answers("feed(" + b + ")", start, x -> x.feed(fed), 3);
        }
    }

    /** "THE TAPE is a row of up to 400 bytes" */
    private static void fullTape() {
        Counted t = new Counted();
        for (int i = 1; i <= 400; i++) {
            Due.is("feed of the byte " + i, t.feed(i == 1 ? '-' : '1'), i);
        }
        Due.is("feed of the byte 401", t.feed('1'), FULL);
        Due.is("feed of the byte 401 again", t.feed('/'), FULL);
        Due.is("read of it", t.read(), -10 - 161);
        Due.is("feed behind read", t.feed('1'), 1);
        Due.refused("feed of the byte 401", () -> new Counted().fed(ones(400)), x -> x.feed('1'), FULL);
        // what does not fit in is not read
        String wide = "-" + "0".repeat(159) + "6/" + "0".repeat(159) + "4";
        Due.makes("read of 322 bytes", () -> new Counted().fed(wide), x -> x.read(), "-3/2");
        Due.answers("read of 400", () -> new Counted().fed(wide + " ".repeat(78)), x -> x.read(), -10 - 322);
    }

    private static void reads(String bytes, Object want) {
        Due.makes("read of " + bytes, () -> new Counted().fed(bytes), t -> t.read(), want);
        Counted t = new Counted().fed(bytes);
        t.read();
        Due.is("THE TAPE behind " + bytes, t.feed('1'), 1);
    }

    /** "- as wished, 1 to 160 figures, then, as wished, / and 1 to 160 figures" */
    private static void fractionsToRead() {
        reads("0", "0");
        reads("9", "9");
        reads("-0", "0");
        reads("-0/7", "0");
        reads("0/7", "0");
        reads("007", "7");
        reads("-12", "-12");
        reads("6/4", "3/2");
        reads("-6/04", "-3/2");
        reads("10/5", "2");
        reads("1234567890/1", "1234567890");
        reads("0".repeat(159) + "5", "5");
        reads("-" + "0".repeat(159) + "5", "-5");
        reads("1/" + "0".repeat(159) + "5", "1/5");
        reads("-" + "9".repeat(160) + "/" + "3".repeat(160), "-3");
    }

    /** "or - as wished, figures, a point, figures (1 to 160 in all, of both sorts one at least)" */
    private static void pointsToRead() {
        reads("0.0", "0");
        reads("-0.0", "0");
        reads("0.5", "1/2");
        reads("-0.5", "-1/2");
        reads("-12.50", "-25/2");
        reads("00.125", "1/8");
        reads("3.00", "3");
        reads("9.9", "99/10");
        reads("0".repeat(158) + "1.5", "3/2");
        reads("-" + "0".repeat(158) + "1.5", "-3/2");
        reads("1." + "0".repeat(159), "1");
        reads("0".repeat(79) + "7." + "5" + "0".repeat(79), "15/2");
    }

    private static void faultAt(int place, String bytes) {
        Supplier<Counted> end = () -> Counted.holding("7/3").written(0);
        Due.refusedInto("read of " + bytes, () -> end.get().fed(bytes), t -> t.read(), -10 - place, end);
        Supplier<Counted> full = () -> end.get().full();
        if (bytes.length() < 300) {
            Due.refusedInto("read with 24 of " + bytes, () -> full.get().fed(bytes), t -> t.read(), -10 - place, full);
        }
    }

    /** "its end, if more is wanted" */
    private static void moreIsWanted() {
        faultAt(0, "");
        faultAt(1, "-");
        faultAt(2, "1/");
        faultAt(3, "-1/");
        faultAt(2, "0/");
        faultAt(2, "5.");
        faultAt(3, "-5.");
        faultAt(161, ones(160) + "/");
        faultAt(160, ones(159) + ".");
    }

    /** "the place of the first byte that can't stand so" */
    private static void bytesThatCannotStand() {
        faultAt(0, "x");
        faultAt(0, "+1");
        faultAt(0, " 1");
        faultAt(0, "/5");
        faultAt(0, ".5");
        faultAt(0, "\u00b1");
        faultAt(0, "\u0000");
        faultAt(0, ":");
        faultAt(1, "--1");
        faultAt(1, "-.5");
        faultAt(1, "-/5");
        faultAt(1, "- 1");
        faultAt(1, "1 ");
        faultAt(1, "1-");
        faultAt(1, "1:");
        faultAt(1, "5e5");
        faultAt(1, "1\u0000");
        faultAt(1, "1\u00b1");
        faultAt(1, "1,5");
        faultAt(2, "12x34y");
        faultAt(2, "1//2");
        faultAt(2, "1/-2");
        faultAt(2, "1/.5");
        faultAt(2, "1/\u00ff");
        faultAt(2, "5..5");
        faultAt(2, "5./5");
        faultAt(2, "5.-5");
        faultAt(3, "1/2/3");
        faultAt(3, "1/2.5");
        faultAt(3, "1/2-");
        faultAt(3, "1/2:");
        faultAt(3, "1/0x");
        faultAt(3, "5.5/5");
        faultAt(3, "5.5.5");
        faultAt(3, "5.5 ");
        faultAt(4, "-1.5-");
        faultAt(4, "-1/2\u0000");
    }

    /** "the first of 161 figures' last one" */
    private static void figure161() {
        faultAt(160, ones(161));
        faultAt(161, "-" + ones(161));
        faultAt(160, "0".repeat(161));
        faultAt(160, ones(200) + "x");
        faultAt(160, ones(161) + "/1");
        faultAt(160, ones(161) + ".1");
        faultAt(160, ones(400));
        faultAt(162, "1/" + ones(161));
        faultAt(162, "1/" + "0".repeat(161));
        faultAt(163, "-1/" + ones(200));
        faultAt(321, ones(160) + "/" + ones(161));
        // figures on both sides of the point are counted in all
        faultAt(161, "1." + ones(160));
        faultAt(161, ones(80) + "." + ones(81));
        faultAt(161, ones(159) + ".11");
        faultAt(162, "-" + ones(159) + ".11");
        faultAt(161, ones(160) + ".1");
        faultAt(161, ones(160) + ".");
        // the 161st byte is no figure
        faultAt(160, ones(160) + "x");
        faultAt(162, "1/" + ones(160) + "/");
        faultAt(162, "-" + ones(159) + ".1x");
    }

    /** "ArithmeticException: what is behind / is 0." THE TAPE is empty then. */
    private static void strokeZero() {
        Supplier<Counted> end = () -> Counted.holding("7/3").written(0);
        String[] byZero = {"1/0", "0/0", "-0/0", "-5/000", "1/" + "0".repeat(160), "9".repeat(160) + "/0"};
        for (String s : byZero) {
            Due.thrownInto("read of " + s, () -> end.get().fed(s), t -> t.read(), ARITHMETIC, end);
        }
        reads("0/1", "0");
        reads("1/" + "0".repeat(159) + "1", "1");
        reads("0.0", "0");
    }

    /** "THE TAPE, which is empty then (also if it is refused or thrown, but with FULL)" */
    private static void tapeWithFull() {
        Counted t = Counted.holding("7/3").full().fed("1/");
        Due.is("feed ahead of FULL", t.feed('4'), 3);
        Due.is("read with 24", t.read(), FULL);
        Due.is("feed behind FULL", t.feed('5'), 4);
        Due.is("read with 24 again", t.read(), FULL);
        t.drop(17);
        Due.is("read with 23", t.read(), 17);
        Due.is("what was read", t.value(17), "1/45");
        Due.is("read of nothing, then", t.read(), -10);
        Due.is("feed to the empty one", t.feed('5'), 1);
    }

    private static void writes(Object fraction, String want) {
        Counted t = Counted.holding(fraction);
        Due.is("text of " + fraction, t.textOf(0), want);
        Due.is("count behind text", t.count(), 1);
    }

    /** "the figures of N (ahead - if it is below 0), and, unless a is WHOLE, / and those of D" */
    private static void promise24() {
        String[] texts = {
            "0", "1", "-1", "9", "10", "-10", "1000000000", "999999999", "4294967295", "4294967296", "9223372036854775808", "-7/3", "1/10", "-1/2",
            "100/1001", "" + GREATEST, "-" + GREATEST, "1/" + GREATEST, "" + BigInteger.TEN.pow(154), BigInteger.TEN.pow(154).subtract(BigInteger.ONE) + "",
        };
        for (String s : texts) {
            writes(s, s);
        }
        writes("6/4", "3/2");
        writes("-6/3", "-2");
        // the longest: 312 bytes
        String longest = "-" + GREATEST + "/" + GREATEST.subtract(BigInteger.ONE);
        Supplier<Counted> start = () -> Counted.holding(longest);
        Due.answers("how many bytes the longest has", start, t -> t.text(0), 312);
        Due.is("the longest", start.get().written(0).outs(), longest);
    }

    /** A refused call leaves OUT as it was. */
    private static void refusedTexts() {
        Supplier<Counted> start = () -> Counted.holding("-7/3", "5").dropped(1).written(0);
        Due.refused("text of a dropped one", start, t -> t.text(1), BAD);
        int[] none = {-1, 101, 102, Integer.MIN_VALUE, Integer.MAX_VALUE};
        for (int n : none) {
            Due.refused("figures, " + n, start, t -> t.figures(0, n), BAD);
        }
        Due.refused("figures of a dropped one", start, t -> t.figures(1, 1), BAD);
    }

    /** "- if it is below 0, the whole part, and, unless n is 0, a point and n figures (1 .. 100) more, cut" */
    private static void promise25() {
        String[][] rows = {
            {"22/7", "0", "3"}, {"22/7", "1", "3.1"}, {"22/7", "2", "3.14"}, {"22/7", "7", "3.1428571"}, {"-22/7", "3", "-3.142"}, {"2/3", "3", "0.666"},
            {"-2/3", "3", "-0.666"}, {"5", "0", "5"}, {"5", "1", "5.0"}, {"-5", "2", "-5.00"}, {"0", "0", "0"}, {"0", "3", "0.000"}, {"19/20", "1", "0.9"},
            {"-19/20", "0", "-0"}, {"-2/3", "0", "-0"}, {"-1/1000", "2", "-0.00"}, {"-1/1000", "3", "-0.001"}, {"1/8", "5", "0.12500"},
            {"999/1000", "2", "0.99"}, {"100/7", "4", "14.2857"}, {"1/3", "99", "0." + "3".repeat(99)}, {"1/3", "100", "0." + "3".repeat(100)},
            {"1/" + GREATEST, "100", "0." + "0".repeat(100)}, {"" + GREATEST, "0", "" + GREATEST},
            {"-" + GREATEST, "100", "-" + GREATEST + "." + "0".repeat(100)}, {"1/" + BigInteger.TEN.pow(100), "100", "0." + "0".repeat(99) + "1"},
        };
        for (String[] row : rows) {
            Counted t = Counted.holding(row[0]);
            Due.is("figures of " + row[0] + ", " + row[1], t.figuresOf(0, Integer.parseInt(row[1])), row[2]);
            Due.is("count behind figures", t.count(), 1);
        }
    }

    /** "Byte i of OUT; NONE." "at first none" */
    private static void promise26() {
        int[] none = {-1, 0, 1, Integer.MIN_VALUE, Integer.MAX_VALUE};
        for (int i : none) {
            Due.answers("out(" + i + ") ahead of any text", () -> Counted.holding("-1/2").fed("12"), t -> t.out(i), NONE);
        }
        Supplier<Counted> start = () -> Counted.holding("-1/2").written(0);
        int[] bytes = {'-', '1', '/', '2'};
        for (int k = 0; k < 4; k++) {
            int i = k;
            Due.answers("out(" + i + ")", start, t -> t.out(i), bytes[i]);
        }
        int[] beside = {4, 5, 319, 320, 321, -1, -2, Integer.MIN_VALUE, Integer.MAX_VALUE};
        for (int i : beside) {
            Due.answers("out(" + i + ")", start, t -> t.out(i), NONE);
        }
        Supplier<Counted> longest = () -> Counted.holding("-" + GREATEST + "/" + GREATEST.subtract(BigInteger.ONE)).written(0);
        Due.answers("the first byte of the longest", longest, t -> t.out(0), '-');
        int last = '0' + GREATEST.subtract(BigInteger.ONE).mod(BigInteger.TEN).intValue();
        Due.answers("the last byte of the longest", longest, t -> t.out(311), last);
        Due.answers("the byte behind the longest", longest, t -> t.out(312), NONE);
    }

    /** "OUT the row of bytes that the latest text() made" */
    private static void latestText() {
        Counted t = Counted.holding("-415/93", "7", "1/3");
        Due.is("the first", t.textOf(0), "-415/93");
        Due.is("one that is shorter", t.textOf(1), "7");
        Due.is("the byte behind it", t.out(1), NONE);
        Due.is("one that is longer", t.figuresOf(2, 9), "0.333333333");
        Due.is("behind a refused text", t.text(9) + t.outs(), BAD + "0.333333333");
        t.dropped(0, 1, 2);
        Due.is("behind drops", t.outs(), "0.333333333");
        Due.is("behind feed", t.feed('5') + t.outs(), "10.333333333");
        Due.is("behind read", t.read() + t.outs(), "00.333333333");
    }

    /** "how many that do not come again (what = 0), that do (1)", "none where it ends" */
    private static void promise27() {
        String[][] rows = {
            {"0", "0", "0"}, {"1", "0", "0"}, {"-8", "0", "0"}, {"" + GREATEST, "0", "0"}, {"1/2", "1", "0"}, {"1/5", "1", "0"}, {"-3/10", "1", "0"},
            {"1/4", "2", "0"}, {"1/25", "2", "0"}, {"3/40", "3", "0"}, {"1/3", "0", "1"}, {"-4/3", "0", "1"}, {"-1/6", "1", "1"}, {"1/7", "0", "6"}, {"1/9", "0", "1"},
            {"1/11", "0", "2"}, {"1/12", "2", "1"}, {"1/28", "2", "6"}, {"1/49", "0", "42"}, {"1/81", "0", "9"}, {"1/99", "0", "2"}, {"1/487", "0", "486"},
            {"1/99989", "0", "99988"}, {"1/99991", "0", "49995"}, {"1/99999", "0", "5"}, {"7/200000", "6", "0"}, {"1/199998", "1", "5"},
            {"1/" + BigInteger.TWO.pow(511), "511", "0"}, {"1/" + BigInteger.valueOf(5).pow(220), "220", "0"}, {"3/" + BigInteger.TEN.pow(154), "154", "0"},
            {"1/" + BigInteger.TEN.pow(150).multiply(BigInteger.valueOf(7)), "150", "6"}, {"1/" + BigInteger.TWO.pow(490).multiply(BigInteger.valueOf(99999)), "490", "5"},
        };
        for (String[] row : rows) {
            for (int what = 0; what < 2; what++) {
                int asked = what;
                long want = Integer.parseInt(row[what + 1]);
                Due.answers("period of " + row[0] + ", " + what, () -> Counted.holding(row[0]).full(), t -> t.period(0, asked), want);
            }
        }
        int[] none = {-1, 2, 3, Integer.MIN_VALUE, Integer.MAX_VALUE};
        for (int what : none) {
            Due.refused("period, " + what, () -> Counted.holding("1/7").written(0), t -> t.period(0, what), BAD);
        }
    }

    /** "NO: D, without its factors 2 and 5, is above 100000." */
    private static void tooLongPeriods() {
        String[] wides = {
            "1/100001", "1/100003", "1/200002", "-7/500005", "1/237169", "1/4295067297", "1/" + GREATEST,
            "1/" + BigInteger.TWO.pow(64).add(BigInteger.valueOf(3)), "1/" + BigInteger.valueOf(100001).multiply(BigInteger.TEN.pow(100)),
        };
        for (String s : wides) {
            for (int what = 0; what < 2; what++) {
                int asked = what;
                Due.refused("period of " + s + ", " + what, () -> Counted.holding(s).written(0), t -> t.period(0, asked), NO);
            }
        }
        // 99999 is the last D of all that has an answer; those with factors 2 and 5 may be wider
        Due.answers("period of 1/100000", () -> Counted.holding("1/100000"), t -> t.period(0, 0), 5);
        Due.answers("period of 1/99999", () -> Counted.holding("1/99999"), t -> t.period(0, 1), 5);
        Due.answers("period of 1/99999000000", () -> Counted.holding("1/99999000000"), t -> t.period(0, 1), 5);
    }

    /** Each D up to some bound, and the last ones that have an answer, against long division. */
    private static void periodsOfAll() {
        for (int d = 1; d <= 100000; d += d < 3000 || d >= 99900 ? 1 : 97) {
            Counted t = Counted.holding("1/" + d);
            int odd = d;
            while (odd % 2 == 0) {
                odd /= 2;
            }
            while (odd % 5 == 0) {
                odd /= 5;
            }
            int rest = 1 % d;
            int ahead = 0;
            while (rest % (d / odd) != 0) {
                rest = (int) (rest * 10L % d);
                ahead++;
            }
            int first = rest;
            int again = 0;
            while (rest != 0 && (again == 0 || rest != first)) {
                rest = (int) (rest * 10L % d);
                again++;
            }
            Due.is("period(1/" + d + ", 0)", t.period(0, 0), ahead);
            Due.is("period(1/" + d + ", 1)", t.period(0, 1), again);
        }
    }

    public static void main(String[] args) {
        promise22();
        fullTape();
        fractionsToRead();
        pointsToRead();
        moreIsWanted();
        bytesThatCannotStand();
        figure161();
        strokeZero();
        tapeWithFull();
        promise24();
        refusedTexts();
        promise25();
        promise26();
        latestText();
        promise27();
        tooLongPeriods();
        periodsOfAll();
        Due.end("FiguresTest");
    }
}
