import java.math.BigInteger;

/** Promises 14 to 17: the terms of chains, what they make, and the best small fractions. */
public final class ChainsTest {
    private static final String WIDEST = BigInteger.TWO.pow(512).subtract(BigInteger.ONE).toString();

    private static String chain(LeastTerms x, int a) {
        StringBuilder s = new StringBuilder();
        for (int i = 0; i < x.terms(a); i++) {
            s.append(i == 0 ? "" : " ").append(Due.made(x, x.term(a, i)));
        }
        return s.toString();
    }

    private static String parts(LeastTerms x, int a) {
        StringBuilder s = new StringBuilder();
        for (int n = 1; n <= x.terms(a); n++) {
            s.append(n == 1 ? "" : " ").append(Due.made(x, x.part(a, n)));
        }
        return s.toString();
    }

    private static void promises14To16() {
        LeastTerms x = new LeastTerms();
        String[][] rows = {
            {"0", "0", "0"}, {"-5", "-5", "-5"}, {"1/2", "0 2", "0 1/2"}, {"-1/2", "-1 2", "-1 -1/2"},
            {"-1/3", "-1 1 2", "-1 0 -1/3"}, {"415/93", "4 2 6 7", "4 9/2 58/13 415/93"},
            {"-415/93", "-5 1 1 6 7", "-5 -4 -9/2 -58/13 -415/93"}, {"3.245", "3 4 12 4", "3 13/4 159/49 649/200"},
            {WIDEST, WIDEST, WIDEST}, {"1/" + WIDEST, "0 " + WIDEST, "0 1/" + WIDEST},
        };
        for (String[] row : rows) {
            int a = Due.read(x, row[0]);
            Due.is("terms of " + row[0], x.terms(a), row[1].split(" ").length);
            Due.is("chain of " + row[0], chain(x, a), row[1]);
            Due.is("parts of " + row[0], parts(x, a), row[2]);
            x.drop(a);
        }
        longestChain(x);
        refusals(x);
    }

    /** Two neighbours of Fibonacci's row have the longest chain of their width. */
    private static void longestChain(LeastTerms x) {
        BigInteger p = BigInteger.ONE;
        BigInteger q = BigInteger.ONE;
        int steps = 0;
        while (p.add(q).bitLength() <= 512) {
            BigInteger sum = p.add(q);
            q = p;
            p = sum;
            steps++;
        }
        int a = Due.read(x, p + "/" + q);
        Due.is("terms of the longest chain", x.terms(a), steps);
        Due.is("its last term", Due.made(x, x.term(a, steps - 1)), "2");
        Due.is("all of it", Due.made(x, x.part(a, steps)), p + "/" + q);
        Due.is("all but one", Due.made(x, x.part(a, steps - 1)), p.subtract(q) + "/" + q.add(q).subtract(p));
        Due.refused(x, "a term too far", () -> x.term(a, x.terms(a)), LeastTerms.BAD);
        x.drop(a);
    }

    private static void refusals(LeastTerms x) {
        int a = Due.read(x, "415/93");
        Due.refused(x, "terms of none", () -> x.terms(9), LeastTerms.BAD);
        Due.refused(x, "term of none", () -> x.term(9, 0), LeastTerms.BAD);
        Due.refused(x, "term(a, 4)", () -> x.term(a, 4), LeastTerms.BAD);
        Due.refused(x, "term(a, -1)", () -> x.term(a, -1), LeastTerms.BAD);
        Due.refused(x, "term(a, most)", () -> x.term(a, Integer.MAX_VALUE), LeastTerms.BAD);
        Due.refused(x, "part of none", () -> x.part(-1, 1), LeastTerms.BAD);
        Due.refused(x, "part(a, 0)", () -> x.part(a, 0), LeastTerms.BAD);
        Due.refused(x, "part(a, 5)", () -> x.part(a, 5), LeastTerms.BAD);
        Due.refused(x, "part(a, least)", () -> x.part(a, Integer.MIN_VALUE), LeastTerms.BAD);
        Due.refused(x, "part(a, most)", () -> x.part(a, Integer.MAX_VALUE), LeastTerms.BAD);
        Due.fill(x);
        Due.is("terms with 24", x.terms(a), 4);
        Due.refused(x, "term with 24", () -> x.term(a, 3), LeastTerms.FULL);
        Due.refused(x, "term BAD with 24", () -> x.term(a, 4), LeastTerms.BAD);
        Due.refused(x, "part with 24", () -> x.part(a, 4), LeastTerms.FULL);
        Due.refused(x, "part BAD with 24", () -> x.part(a, 5), LeastTerms.BAD);
    }

    private static void promise17() {
        LeastTerms x = new LeastTerms();
        String[][] rows = {
            {"314159265/100000000", "1", "3"}, {"314159265/100000000", "7", "22/7"},
            {"314159265/100000000", "56", "22/7"}, {"314159265/100000000", "57", "179/57"},
            {"314159265/100000000", "113", "355/113"}, {"-314159265/100000000", "60", "-179/57"},
            {"1/2", "1", "0"}, {"-1/2", "1", "-1"}, {"3/2", "1", "1"}, {"1/2", "2", "1/2"}, {"-5/2", "1", "-3"},
            {"5/12", "3", "1/2"}, {"2/3", "2", "1/2"}, {"3/4", "3", "2/3"}, {"3/4", "2", "1"}, {"3/8", "4", "1/3"}, {"1/4", "2", "0"},
            {"-1/4", "2", "0"}, {"1/4", "3", "1/3"}, {"7", "1", "7"}, {"1/" + WIDEST, "9223372036854775807", "0"},
            {WIDEST + "/2", "1", BigInteger.TWO.pow(511).subtract(BigInteger.ONE).toString()},
            {"-" + WIDEST + "/2", "1", "-" + BigInteger.TWO.pow(511)},
            {"-" + WIDEST + "/2", "2", "-" + WIDEST + "/2"},
            {"1/9223372036854775807", "9223372036854775807", "1/9223372036854775807"},
            {"1/9223372036854775808", "9223372036854775807", "1/9223372036854775807"},
        };
        for (String[] row : rows) {
            int a = Due.read(x, row[0]);
            Due.is("best of " + row[0] + " below " + row[1], Due.made(x, x.best(a, Long.parseLong(row[1]))), row[2]);
            x.drop(a);
        }
        int a = Due.read(x, "5/7");
        Due.refused(x, "best below 0", () -> x.best(a, 0), LeastTerms.BAD);
        Due.refused(x, "best below the least", () -> x.best(a, Long.MIN_VALUE), LeastTerms.BAD);
        Due.refused(x, "best of none", () -> x.best(9, 1), LeastTerms.BAD);
        Due.fill(x);
        Due.refused(x, "best with 24", () -> x.best(a, 3), LeastTerms.FULL);
        Due.refused(x, "best BAD with 24", () -> x.best(a, 0), LeastTerms.BAD);
    }

    /** Every small fraction and bound against a search through all fractions. */
    private static void bestOfAll() {
        LeastTerms x = new LeastTerms();
        for (int d = 1; d <= 30; d++) {
            for (int n = -2 * d; n <= 2 * d; n++) {
                int a = Due.read(x, n + "/" + d);
                for (int bound = 1; bound <= 31; bound++) {
                    Due.is("best of " + n + "/" + d + " below " + bound, Due.made(x, x.best(a, bound)), search(n, d, bound));
                }
                x.drop(a);
            }
        }
    }

    private static String search(int n, int d, int bound) {
        long bestP = 0;
        long bestQ = 0;
        for (int q = 1; q <= bound; q++) {
            long p0 = Math.floorDiv((long) n * q, (long) d);
            for (long p = p0; p <= p0 + 1; p++) {
                long gap = Math.abs(n * (long) q - p * d);
                long bestGap = Math.abs(n * bestQ - bestP * d);
                // The lesser D and the lesser p come first, so that only a nearer one is taken.
                if (bestQ == 0 || gap * bestQ < bestGap * q) {
                    bestP = p;
                    bestQ = q;
                }
            }
        }
        return bestQ == 1 ? "" + bestP : bestP + "/" + bestQ;
    }

    public static void main(String[] args) {
        promises14To16();
        promise17();
        bestOfAll();
        Due.end("ChainsTest");
    }
}
