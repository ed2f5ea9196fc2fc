import java.math.BigInteger;
import java.util.function.ToLongFunction;

/** Promises 14 to 17: the terms of chains, what they make, and the best small fractions. */
public final class ChainsTest {
    private static final int BAD = LeastTerms.BAD;
    private static final BigInteger GREATEST = Counted.GREATEST;
    private static final BigInteger HALF = BigInteger.TWO.pow(511);

    private static void refused(String what, ToLongFunction<Counted> call, Object held) {
        Due.refused(what, () -> Counted.holding(held).written(0).fed("12"), call, BAD);
    }

    // What it is, its terms, what its first 1, 2 .. terms make.
    private static final String[][] CHAINS = {
        {"0", "0", "0"}, {"5", "5", "5"}, {"-5", "-5", "-5"}, {"1/2", "0 2", "0 1/2"}, {"-1/2", "-1 2", "-1 -1/2"},
        {"3/2", "1 2", "1 3/2"}, {"-3/2", "-2 2", "-2 -3/2"}, {"2/3", "0 1 2", "0 1 2/3"}, {"-1/3", "-1 1 2", "-1 0 -1/3"},
        {"415/93", "4 2 6 7", "4 9/2 58/13 415/93"}, {"-415/93", "-5 1 1 6 7", "-5 -4 -9/2 -58/13 -415/93"},
        {"649/200", "3 4 12 4", "3 13/4 159/49 649/200"}, {"1/4294967296", "0 4294967296", "0 1/4294967296"},
        {"" + GREATEST, "" + GREATEST, "" + GREATEST}, {"-" + GREATEST, "-" + GREATEST, "-" + GREATEST},
        {"1/" + GREATEST, "0 " + GREATEST, "0 1/" + GREATEST},
        {"-1/" + GREATEST, "-1 1 " + GREATEST.subtract(BigInteger.ONE), "-1 0 -1/" + GREATEST},
        {"-" + GREATEST + "/2", "-" + HALF + " 2", "-" + HALF + " -" + GREATEST + "/2"},
    };

    /** "How many terms THE CHAIN of a has." "if x is that, there are no more" */
    private static void promise14() {
        for (String[] row : CHAINS) {
            Counted t = Counted.holding(row[0]).full();
            Due.is("terms of " + row[0], t.terms(0), row[1].split(" ").length);
            Due.is("count behind terms", t.count(), 24);
        }
    }

    /** "Term i of THE CHAIN, a WHOLE .. BAD: also no such term." */
    private static void promise15() {
        for (String[] row : CHAINS) {
            String[] terms = row[1].split(" ");
            for (int k = 0; k < terms.length; k++) {
                int i = k;
                Due.makes("term " + i + " of " + row[0], () -> Counted.holding(row[0]), t -> t.term(0, i), terms[i]);
            }
            int[] none = {-1, terms.length, terms.length + 1, 4000, 5000, Integer.MIN_VALUE, Integer.MAX_VALUE};
            for (int i : none) {
                refused("term " + i + " of " + row[0], t -> t.term(0, i), row[0]);
            }
        }
    }

    /** "What the first n terms of THE CHAIN (1 .. as many as there are) make" */
    private static void promise16() {
        for (String[] row : CHAINS) {
            String[] parts = row[2].split(" ");
            for (int k = 1; k <= parts.length; k++) {
                int n = k;
                Due.makes("part " + n + " of " + row[0], () -> Counted.holding(row[0]), t -> t.part(0, n), parts[n - 1]);
            }
            int[] none = {-1, 0, parts.length + 1, parts.length + 2, 4000, 5000, Integer.MIN_VALUE, Integer.MAX_VALUE};
            for (int n : none) {
                refused("part " + n + " of " + row[0], t -> t.part(0, n), row[0]);
            }
        }
    }

    /** All terms and parts of all chains, one behind the other on one object. */
    private static void chainsInTurn() {
        Counted t = Counted.holding("415/93", "-1/3", "649/200", "-5");
        String[][] rows = {CHAINS[9], CHAINS[8], CHAINS[11], CHAINS[2]};
        for (int k = 0; k < 4; k++) {
            for (int a = 0; a < 4; a++) {
                String[] terms = rows[a][1].split(" ");
                String[] parts = rows[a][2].split(" ");
                int i = k % terms.length;
                int term = t.term(a, i);
                int part = t.part(a, i + 1);
                Due.is("term " + i + " of " + rows[a][0], t.value(term), terms[i]);
                Due.is("part " + (i + 1) + " of " + rows[a][0], t.value(part), parts[i]);
                Due.is("terms of " + rows[a][0], t.terms(a), terms.length);
                t.dropped(term, part);
            }
        }
    }

    /** Two neighbours of Fibonacci's row have the longest chain of their width. */
    private static void longestChain() {
        BigInteger p = BigInteger.ONE;
        BigInteger q = BigInteger.ONE;
        int steps = 0;
        while (p.add(q).bitLength() <= 512) {
            BigInteger sum = p.add(q);
            q = p;
            p = sum;
            steps++;
        }
        String whole = p + "/" + q;
        String allButOne = p.subtract(q) + "/" + q.add(q).subtract(p);
        int last = steps;
        Due.answers("terms of the longest chain", () -> Counted.holding(whole), t -> t.terms(0), last);
        Due.makes("its last term", () -> Counted.holding(whole), t -> t.term(0, last - 1), "2");
        Due.makes("the term ahead", () -> Counted.holding(whole), t -> t.term(0, last - 2), "1");
        Due.makes("all of it", () -> Counted.holding(whole), t -> t.part(0, last), whole);
        Due.makes("all but one", () -> Counted.holding(whole), t -> t.part(0, last - 1), allButOne);
        refused("a term too far", t -> t.term(0, last), whole);
        refused("a part too long", t -> t.part(0, last + 1), whole);
        // below 0 the first step is another one
        String below = "-" + q + "/" + p;
        Due.answers("terms of the same below 0", () -> Counted.holding(below), t -> t.terms(0), last);
        Due.makes("all of that", () -> Counted.holding(below), t -> t.part(0, last), below);
    }

    private static void best(String what, long bound, Object want) {
        Due.makes("best of " + what + " below " + bound, () -> Counted.holding(what), t -> t.best(0, bound), want);
    }

    /** "of all fractions whose D is the bound at most the one nearest to x" */
    private static void nearest() {
        String pi = "314159265/100000000";
        best(pi, 1, "3");
        best(pi, 6, "19/6");
        best(pi, 7, "22/7");
        best(pi, 56, "22/7");
        best(pi, 57, "179/57");
        best(pi, 112, "333/106");
        best(pi, 113, "355/113");
        best("-" + pi, 60, "-179/57");
        // the bound at D, and one below
        best("5/12", 12, "5/12");
        best("5/12", 11, "3/7");
        best("7", 1, "7");
        best("1/2", 2, "1/2");
        best("1/3", 2, "1/2");
        best("-2/3", 1, "-1");
        best("1/" + GREATEST, Long.MAX_VALUE, "0");
        best(GREATEST + "/" + HALF, 1, "2");
        best(GREATEST + "/" + HALF, Long.MAX_VALUE, "2");
        best("1/9223372036854775807", Long.MAX_VALUE, "1/9223372036854775807");
        best("1/9223372036854775808", Long.MAX_VALUE, "1/9223372036854775807");
        best("1/4611686018427387904", Long.MAX_VALUE, "1/4611686018427387904");
        best("3/13835058055282163713", Long.MAX_VALUE, "1/4611686018427387904");
        best("1/18446744073709551613", Long.MAX_VALUE, "1/9223372036854775807");
        best("-1/18446744073709551613", Long.MAX_VALUE, "-1/9223372036854775807");
        best("1/18446744073709551615", Long.MAX_VALUE, "0");
        best("9223372036854775806/9223372036854775807", Long.MAX_VALUE - 1, "9223372036854775805/9223372036854775806");
        best("" + GREATEST, 1, GREATEST);
        best("-" + GREATEST + "/2", 2, "-" + GREATEST + "/2");
        best("0", 1, "0");
        best("0", Long.MAX_VALUE, "0");
    }

    /** "of several the one with the least D, of these the lesser one" */
    private static void ties() {
        // 5/12 is midway between 1/3 and 1/2
        best("5/12", 3, "1/2");
        best("-5/12", 3, "-1/2");
        best("1/4", 2, "0");
        best("-1/4", 2, "0");
        best("3/4", 2, "1");
        best("-3/4", 2, "-1");
        best("17/4", 2, "4");
        best("19/4", 2, "5");
        // 0 and 1 both have the D 1
        best("1/2", 1, "0");
        best("-1/2", 1, "-1");
        best("3/2", 1, "1");
        best("-3/2", 1, "-2");
        best("5/2", 1, "2");
        best("-5/2", 1, "-3");
        best(GREATEST + "/2", 1, HALF.subtract(BigInteger.ONE));
        best("-" + GREATEST + "/2", 1, HALF.negate());
        // midway between 0 and 1/bound
        best("1/18446744073709551614", Long.MAX_VALUE, "0");
        best("-1/18446744073709551614", Long.MAX_VALUE, "0");
    }

    /** "a bound (1 and more)" */
    private static void bounds() {
        long[] none = {0, -1, -7, Long.MIN_VALUE, Integer.MIN_VALUE};
        for (long bound : none) {
            refused("best below " + bound, t -> t.best(0, bound), "5/7");
            refused("best of a WHOLE below " + bound, t -> t.best(0, bound), "5");
        }
    }

    /** Every small fraction and bound against a search through all fractions. */
    private static void bestOfAll() {
        for (int d = 1; d <= 30; d++) {
            for (int n = -2 * d; n <= 2 * d; n++) {
                Counted t = Counted.holding(n + "/" + d);
                for (int bound = 1; bound <= 31; bound++) {
                    int a = t.best(0, bound);
                    Due.is("best of " + n + "/" + d + " below " + bound, t.value(a), search(n, d, bound));
                    t.drop(a);
                }
            }
        }
    }

    private static String search(int n, int d, int bound) {
        long bestP = 0;
        long bestQ = 0;
        for (int q = 1; q <= bound; q++) {
            long p0 = Math.floorDiv((long) n * q, (long) d);
            for (long p = p0; p <= p0 + 1; p++) {
                long gap = Math.abs(n * (long) q - p * d);
                long bestGap = Math.abs(n * bestQ - bestP * d);
                // The lesser D and the lesser p come first, so that only a nearer one is taken.
                if (bestQ == 0 || gap * bestQ < bestGap * q) {
                    bestP = p;
                    bestQ = q;
                }
            }
        }
        return bestQ == 1 ? "" + bestP : bestP + "/" + bestQ;
    }

    public static void main(String[] args) {
        promise14();
        promise15();
        promise16();
        chainsInTurn();
        longestChain();
        nearest();
        ties();
        bounds();
        bestOfAll();
        Due.end("ChainsTest");
    }
}
