import java.util.function.Supplier;
import java.util.function.ToLongFunction;

/** Holds answers against those that are due. */
final class Due {
    private static int wrong = 0;
    private static int asked = 0;

    private Due() {
    }

    static void is(String what, long got, long want) {
        asked++;
        if (got != want) {
            tell(what + " answered " + got + ", due is " + want);
        }
    }

    static void is(String what, String got, String want) {
        asked++;
        if (!got.equals(want)) {
            tell(what + " answered " + got + ", due is " + want);
        }
    }

    static void isTrue(String what, boolean got) {
        is(what, got ? "true" : "false", "true");
    }

    /** The call makes a NUMBER more, and it is this one, whatever was reckoned before. */
    static void makes(String what, Supplier<Counted> start, ToLongFunction<Counted> call, Object want) {
        makesFrom(what, start.get(), call, want);
        makesFrom(what + " behind others", start.get().stirred(1), call, want);
        makesFrom(what + " behind others below 0", start.get().stirred(-1), call, want);
    }

    private static void makesFrom(String what, Counted t, ToLongFunction<Counted> call, Object want) {
        int before = t.count();
        is(what, t.value((int) call.applyAsLong(t)), want.toString());
        is("count behind " + what, t.count(), before + 1);
    }

    /** The call is refused so, and nothing is changed: a twin that was not asked looks the same. */
    static void refused(String what, Supplier<Counted> start, ToLongFunction<Counted> call, long want) {
        refusedInto(what, start, call, want, start);
    }

    /** The same for a call that leaves something changed, as the end has it. */
    static void refusedInto(String what, Supplier<Counted> start, ToLongFunction<Counted> call, long want, Supplier<Counted> end) {
        Counted t = start.get();
        is(what, answer(t, call), "" + want);
        is("the state behind " + what, t.lastState(), end.get().lastState());
    }

    /** The call throws just this class of exception, and nothing is changed. */
    static void thrown(String what, Supplier<Counted> start, ToLongFunction<Counted> call, Class<? extends RuntimeException> want) {
        thrownInto(what, start, call, want, start);
    }

    static void thrownInto(String what, Supplier<Counted> start, ToLongFunction<Counted> call, Class<? extends RuntimeException> want, Supplier<Counted> end) {
        Counted t = start.get();
        is(what, answer(t, call), want.getName());
        is("the state behind " + what, t.lastState(), end.get().lastState());
    }

    /** The call answers so, without looking at what it changes. */
    static void answers(String what, Supplier<Counted> start, ToLongFunction<Counted> call, long want) {
        is(what, answer(start.get(), call), "" + want);
    }

    /** What a call answers, or the name of what it throws. */
    static String answer(Counted t, ToLongFunction<Counted> call) {
        try {
            return "" + call.applyAsLong(t);
        } catch (RuntimeException e) {
            return e.getClass().getName() + (isTheMachines(e) ? " of the machine" : "");
        }
    }

    /** The class is to throw by itself: the machine's own exceptions have texts of these kinds, or none. */
    private static boolean isTheMachines(RuntimeException e) {
        String text = e.getMessage();
        return text == null || text.equals("/ by zero") || text.startsWith("Index ") || text.matches("-?\\d+");
    }

    static void tell(String fault) {
        wrong++;
        if (wrong <= 40) {
            System.out.println(fault.length() > 900 ? fault.substring(0, 900) + " .." : fault);
        }
    }

    static void end(String name) {
        System.out.println(name + ": " + asked + " answers, " + wrong + " wrong");
        if (wrong != 0 || asked == 0) {
            System.exit(1);
        }
    }
}
