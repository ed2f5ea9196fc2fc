import java.util.function.LongSupplier;

/** What the tests share: holding answers against those that are due, and looking at an object's state. */
final class Due {
    private static int wrong = 0;
    private static int asked = 0;

    private Due() {
    }

    static void is(String what, long got, long want) {
        asked++;
        if (got != want) {
            tell(what + " answered " + got + ", due is " + want);
        }
    }

    static void is(String what, String got, String want) {
        asked++;
        if (!got.equals(want)) {
            tell(what + " answered " + got + ", due is " + want);
        }
    }

    /** A call that is refused, and changes nothing. */
    static void refused(LeastTerms x, String what, LongSupplier call, long want) {
        String before = state(x);
        is(what, call.getAsLong(), want);
        is("the state behind " + what, state(x), before);
    }

    /** A call that throws just this class of exception, and changes nothing. */
    static void thrown(LeastTerms x, String what, LongSupplier call, Class<? extends RuntimeException> want) {
        String before = state(x);
        String got;
        try {
            got = "" + call.getAsLong();
        } catch (RuntimeException e) {
            got = e.getClass().getName();
        }
        is(what, got, want.getName());
        is("the state behind " + what, state(x), before);
    }

    static void feed(LeastTerms x, String bytes) {
        for (int i = 0; i < bytes.length(); i++) {
            x.feed(bytes.charAt(i));
        }
    }

    /** What read() answers of these bytes. */
    static int read(LeastTerms x, String bytes) {
        feed(x, bytes);
        return x.read();
    }

    static String out(LeastTerms x) {
        StringBuilder s = new StringBuilder();
        for (int i = 0; x.out(i) != LeastTerms.NONE; i++) {
            s.append((char) x.out(i));
        }
        return s.toString();
    }

    static String text(LeastTerms x, int a) {
        int length = x.text(a);
        String s = out(x);
        is("the length of text(" + a + ")", length, s.length());
        return s;
    }

    /** Shows a number that a call has just answered, and drops it again. */
    static String made(LeastTerms x, int a) {
        if (a < 0) {
            return "refused " + a;
        }
        String s = text(x, a);
        x.drop(a);
        return s;
    }

    static void fill(LeastTerms x) {
        for (int i = x.count(); i < 24; i++) {
            x.whole(i);
        }
    }

    /** All that can be seen without changing anything: the NUMBERS and OUT. */
    static String state(LeastTerms x) {
        StringBuilder s = new StringBuilder("count " + x.count() + "; ");
        for (int a = 0; a < 24; a++) {
            if (x.of(a, 3) > 0) {
                s.append(a).append(": ").append(x.of(a, 0)).append(limbs(x, a, 0)).append(limbs(x, a, 1)).append("; ");
            }
        }
        return s.append("out ").append(out(x)).toString();
    }

    private static String limbs(LeastTerms x, int a, int part) {
        StringBuilder s = new StringBuilder(" /");
        for (int i = 0; i < (x.of(a, 2 + part) + 31) / 32; i++) {
            s.append(' ').append(Integer.toHexString(x.limb(a, part, i)));
        }
        return s.toString();
    }

    static void tell(String fault) {
        wrong++;
        if (wrong <= 40) {
            System.out.println(fault.length() > 600 ? fault.substring(0, 600) + " .." : fault);
        }
    }

    static void end(String name) {
        System.out.println(name + ": " + asked + " answers, " + wrong + " wrong");
        if (wrong != 0 || asked == 0) {
            System.exit(1);
        }
    }
}
