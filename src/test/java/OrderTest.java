import java.util.function.Supplier;
import java.util.function.ToLongFunction;

/**
 * "REFUSALS, the first told: BAD, NO, FULL, WIDE", with the exceptions where each promise names them: calls
 * for which several hold. That BAD for no such NUMBER comes ahead of all others is PlacesTest's.
 */
public final class OrderTest {
    private static final Class<ArithmeticException> ARITHMETIC = ArithmeticException.class;
    private static final int BAD = LeastTerms.BAD, NO = LeastTerms.NO, FULL = LeastTerms.FULL, WIDE = LeastTerms.WIDE;
    // The places of held().
    private static final int GREATEST = 0, HALF = 1, ZERO = 2, SIX = 3, MINUS_THIRD = 4;

    private static Counted held() {
        return Counted.holding(Counted.GREATEST, "1/2", 0, 6, "-1/3").written(HALF).fed("12");
    }

    private static Counted fullOnes() {
        return held().full();
    }

    private static void told(String what, ToLongFunction<Counted> call, int withRoom, int withNone) {
        Due.refused(what, OrderTest::held, call, withRoom);
        Due.refused(what + " with 24", OrderTest::fullOnes, call, withNone);
    }

    private static void thrown(String what, ToLongFunction<Counted> call, Class<? extends RuntimeException> want) {
        Due.thrown(what, OrderTest::held, call, want);
        Due.thrown(what + " with 24", OrderTest::fullOnes, call, want);
    }

    private static void numbers() {
        told("shifted too far", t -> t.shifted(16), WIDE, FULL);
        thrown("shifted by less than 0", t -> t.shifted(-1), NegativeArraySizeException.class);
        told("over too wide", t -> t.over(GREATEST, HALF), WIDE, FULL);
        thrown("over 0", t -> t.over(GREATEST, ZERO), ARITHMETIC);
        told("over of no such one and 0", t -> t.over(24, ZERO), BAD, BAD);
        told("apply too wide", t -> t.apply(2, GREATEST, GREATEST), WIDE, FULL);
        told("a sum too wide", t -> t.apply(0, GREATEST, HALF), WIDE, FULL);
        told("a difference too wide", t -> t.apply(1, HALF, GREATEST), WIDE, FULL);
        told("a rest too wide", t -> t.apply(3, MINUS_THIRD, GREATEST), WIDE, FULL);
        thrown("a rest by 0", t -> t.apply(3, GREATEST, ZERO), ARITHMETIC);
        told("no such op by 0", t -> t.apply(4, GREATEST, ZERO), BAD, BAD);
        told("no such op, too wide", t -> t.apply(-1, GREATEST, GREATEST), BAD, BAD);
        told("power too wide", t -> t.power(SIX, 512), WIDE, FULL);
        thrown("0 to a power below 0", t -> t.power(ZERO, -512), ARITHMETIC);
        told("0 to too low a power", t -> t.power(ZERO, -513), BAD, BAD);
        told("too high a power, too wide", t -> t.power(SIX, 513), BAD, BAD);
        told("near in no such way", t -> t.near(HALF, 4), BAD, BAD);
        told("common of a half", t -> t.common(HALF, SIX), NO, NO);
        told("common with a half", t -> t.common(SIX, HALF), NO, NO);
        told("common of a half and none", t -> t.common(HALF, -1), BAD, BAD);
        told("common of none and a half", t -> t.common(-1, HALF), BAD, BAD);
        told("limb of no such part and place", t -> t.limb(HALF, 2, 16), BAD, BAD);
        thrown("limb of no such place", t -> t.limb(HALF, 1, 1), ArrayIndexOutOfBoundsException.class);
    }

    private static void chains() {
        told("no such term", t -> t.term(HALF, 2), BAD, BAD);
        told("a part of too many", t -> t.part(HALF, 3), BAD, BAD);
        told("a part of none", t -> t.part(HALF, 0), BAD, BAD);
        told("best below 0", t -> t.best(HALF, 0), BAD, BAD);
    }

    private static void lanes() {
        told("no such lane of a half", t -> t.exact(HALF, 5), BAD, BAD);
        told("no such lane of a wide one", t -> t.exact(GREATEST, -1), BAD, BAD);
        thrown("a half in a lane", t -> t.exact(HALF, 4), ARITHMETIC);
        thrown("a wide one in a lane", t -> t.exact(GREATEST, 4), ARITHMETIC);
        thrown("an infinite double", t -> t.ofReal(0x7ff0000000000000L), ARITHMETIC);
        told("a double too wide", t -> t.ofReal(1L), WIDE, FULL);
    }

    private static void figures() {
        told("too many figures", t -> t.figures(HALF, 101), BAD, BAD);
        told("period of no such sort", t -> t.period(HALF, 2), BAD, BAD);
        Supplier<Counted> none = () -> Counted.holding("1/100001").written(0).fed("12");
        Due.refused("period of D above 100000", none, t -> t.period(0, 1), NO);
        Due.refused("the same of no such sort", none, t -> t.period(0, 2), BAD);
        Supplier<Counted> tape = () -> Counted.holding("5").fed("1".repeat(400));
        Due.refused("feed to 400", tape, t -> t.feed('1'), FULL);
        Due.refused("feed of no byte to 400", tape, t -> t.feed(256), BAD);
        Due.refused("feed of less than a byte to 400", tape, t -> t.feed(-1), BAD);
    }

    /** The first byte that can't stand, FULL, the exception, WIDE; only FULL leaves THE TAPE as it is. */
    private static void readings() {
        Supplier<Counted> some = () -> Counted.holding("5").written(0);
        Supplier<Counted> all = () -> some.get().full();
        String wide = "9".repeat(160);
        Due.refusedInto("read of a fault", () -> some.get().fed("1/0x"), t -> t.read(), -13, some);
        Due.refusedInto("read of a fault with 24", () -> all.get().fed("1/0x"), t -> t.read(), -13, all);
        Due.refusedInto("read of a wide fault with 24", () -> all.get().fed(wide + "9"), t -> t.read(), -170, all);
        Due.refused("read of /0 with 24", () -> all.get().fed("1/0"), t -> t.read(), FULL);
        Due.refused("read of a wide one with 24", () -> all.get().fed(wide), t -> t.read(), FULL);
        Due.thrownInto("read of /0", () -> some.get().fed("1/0"), t -> t.read(), ARITHMETIC, some);
        Due.thrownInto("read of a wide one by 0", () -> some.get().fed(wide + "/0"), t -> t.read(), ARITHMETIC, some);
        Due.refusedInto("read of a wide one", () -> some.get().fed(wide), t -> t.read(), WIDE, some);
    }

    public static void main(String[] args) {
        numbers();
        chains();
        lanes();
        figures();
        readings();
        Due.end("OrderTest");
    }
}
