import java.util.function.Supplier;
import java.util.function.ToLongFunction;

/**
 * The section "Terms", as it binds every call: 24 NUMBERS and the 25th, places that are given again, and what
 * no such NUMBER is.
 */
public final class PlacesTest {
    private static final long THREE_QUARTERS = Double.doubleToRawLongBits(0.75);
    private static final int[] NO_PLACES = {-1, -2, 24, 25, 32, 255, 256, Integer.MIN_VALUE, Integer.MIN_VALUE + 1, Integer.MAX_VALUE};

    /** A call that makes a NUMBER of those that few() has. */
    private record Maker(String name, ToLongFunction<Counted> call) {
    }

    private static final Maker[] MAKERS = {
        new Maker("whole(7)", t -> t.whole(7)), new Maker("shifted(2)", t -> t.shifted(2)),
        new Maker("over(0, 1)", t -> t.over(0, 1)), new Maker("apply(0, 0, 1)", t -> t.apply(0, 0, 1)),
        new Maker("apply(1, 0, 1)", t -> t.apply(1, 0, 1)), new Maker("apply(2, 0, 1)", t -> t.apply(2, 0, 1)),
        new Maker("apply(3, 0, 1)", t -> t.apply(3, 0, 1)), new Maker("power(0, -2)", t -> t.power(0, -2)),
        new Maker("power(0, 0)", t -> t.power(0, 0)), new Maker("near(0, 0)", t -> t.near(0, 0)),
        new Maker("near(0, 1)", t -> t.near(0, 1)), new Maker("near(0, 2)", t -> t.near(0, 2)),
        new Maker("near(0, 3)", t -> t.near(0, 3)), new Maker("common(2, 3)", t -> t.common(2, 3)),
        new Maker("term(0, 1)", t -> t.term(0, 1)), new Maker("part(0, 2)", t -> t.part(0, 2)),
        new Maker("best(0, 2)", t -> t.best(0, 2)), new Maker("best(0, 3)", t -> t.best(0, 3)),
        new Maker("ofReal(0.75)", t -> t.ofReal(THREE_QUARTERS)), new Maker("read()", t -> t.read()),
    };

    private static final String[] MADE = {
        "7", "18446744073709551616", "-35/6", "29/15", "41/15", "-14/15", "-1/15", "9/49", "1", "2", "3", "2", "2",
        "6", "3", "7/3", "5/2", "7/3", "3/4", "1/2",
    };

    private static Counted few() {
        return Counted.holding("7/3", "-2/5", "12", "18").fed("1/2");
    }

    /** A call with one of its NUMBERS left open. */
    private interface Call {
        long answer(Counted t, int place);
    }

    private record Open(String name, Call call) {
    }

    // What the other arguments ask for would be refused or thrown too, were it not BAD first, or is in order.
    private static final Open[] OPENS = {
        new Open("over(p, 0)", (t, p) -> t.over(p, 0)), new Open("over(0, p)", (t, p) -> t.over(0, p)),
        new Open("over(p, zero)", (t, p) -> t.over(p, 1)), new Open("over(p, p)", (t, p) -> t.over(p, p)),
        new Open("apply(0, p, 0)", (t, p) -> t.apply(0, p, 0)), new Open("apply(0, 0, p)", (t, p) -> t.apply(0, 0, p)),
        new Open("apply(1, p, 0)", (t, p) -> t.apply(1, p, 0)), new Open("apply(1, 0, p)", (t, p) -> t.apply(1, 0, p)),
        new Open("apply(2, p, 0)", (t, p) -> t.apply(2, p, 0)), new Open("apply(2, 0, p)", (t, p) -> t.apply(2, 0, p)),
        new Open("apply(3, p, 0)", (t, p) -> t.apply(3, p, 0)), new Open("apply(3, 0, p)", (t, p) -> t.apply(3, 0, p)),
        new Open("apply(3, p, zero)", (t, p) -> t.apply(3, p, 1)), new Open("apply(4, p, zero)", (t, p) -> t.apply(4, p, 1)),
        new Open("power(p, 2)", (t, p) -> t.power(p, 2)), new Open("power(p, -1)", (t, p) -> t.power(p, -1)),
        new Open("power(p, 0)", (t, p) -> t.power(p, 0)), new Open("near(p, 0)", (t, p) -> t.near(p, 0)),
        new Open("common(p, 2)", (t, p) -> t.common(p, 2)), new Open("common(2, p)", (t, p) -> t.common(2, p)),
        new Open("common(p, 7/3)", (t, p) -> t.common(p, 0)), new Open("common(7/3, p)", (t, p) -> t.common(0, p)),
        new Open("drop(p)", (t, p) -> t.drop(p)), new Open("compare(p, 0)", (t, p) -> t.compare(p, 0)),
        new Open("compare(p, zero)", (t, p) -> t.compare(p, 1)), new Open("compare(0, p)", (t, p) -> t.compare(0, p)),
        new Open("compare(p, p)", (t, p) -> t.compare(p, p)), new Open("of(p, 0)", (t, p) -> t.of(p, 0)),
        new Open("of(p, 1)", (t, p) -> t.of(p, 1)), new Open("of(p, 2)", (t, p) -> t.of(p, 2)),
        new Open("of(p, 3)", (t, p) -> t.of(p, 3)), new Open("limb(p, 0, 0)", (t, p) -> t.limb(p, 0, 0)),
        new Open("limb(p, 1, 0)", (t, p) -> t.limb(p, 1, 0)), new Open("limb(p, 1, -1)", (t, p) -> t.limb(p, 1, -1)),
        new Open("limb(p, 0, 16)", (t, p) -> t.limb(p, 0, 16)), new Open("terms(p)", (t, p) -> t.terms(p)),
        new Open("term(p, 0)", (t, p) -> t.term(p, 0)), new Open("part(p, 1)", (t, p) -> t.part(p, 1)),
        new Open("best(p, 1)", (t, p) -> t.best(p, 1)), new Open("exact(p, 0)", (t, p) -> t.exact(p, 0)),
        new Open("exact(p, 4)", (t, p) -> t.exact(p, 4)), new Open("real(p)", (t, p) -> t.real(p)),
        new Open("single(p)", (t, p) -> t.single(p)), new Open("text(p)", (t, p) -> t.text(p)),
        new Open("figures(p, 0)", (t, p) -> t.figures(p, 0)), new Open("figures(p, 100)", (t, p) -> t.figures(p, 100)),
        new Open("period(p, 0)", (t, p) -> t.period(p, 0)), new Open("period(p, 1)", (t, p) -> t.period(p, 1)),
    };

    /** "NUMBERS, 24 at most, numbered from 0" */
    private static void numberedFromZero() {
        Counted t = new Counted();
        for (int i = 0; i < 24; i++) {
            Due.is("count ahead of the place " + i, t.count(), i);
            Due.is("the place of the NUMBER made behind " + i, t.whole(1000 + i), i);
        }
        Due.is("the 25th NUMBER", t.whole(1), LeastTerms.FULL);
        Due.is("count behind the 25th", t.count(), 24);
        for (int i = 0; i < 24; i++) {
            Due.is("what is in the place " + i, t.value(i), "" + (1000 + i));
        }
    }

    /** "FULL (24 NUMBERS are there)", of each call that makes one: the 24th is made, the 25th is not. */
    private static void twentyFourthAndTwentyFifth() {
        for (int k = 0; k < MAKERS.length; k++) {
            Maker m = MAKERS[k];
            Counted t = few().full().dropped(23);
            Due.is(m.name + " as the 24th", m.call.applyAsLong(t), 23);
            Due.is("what " + m.name + " made", t.value(23), MADE[k]);
            Due.is("count behind " + m.name, t.count(), 24);
            Due.refused(m.name + " as the 25th", () -> few().full().written(1), m.call, LeastTerms.FULL);
        }
    }

    /** "the places of those that were dropped are given again, the least one first", of each call */
    private static void leastPlaceFirst() {
        for (int k = 0; k < MAKERS.length; k++) {
            Maker m = MAKERS[k];
            Counted t = few().full().dropped(20, 5, 11);
            Due.is(m.name + " into the least of three", m.call.applyAsLong(t), 5);
            Due.is("what " + m.name + " made", t.value(5), MADE[k]);
            Due.is("count behind " + m.name, t.count(), 22);
            Due.is("the place behind that", t.whole(1), 11);
        }
    }

    private static void placesGivenAgain() {
        Counted t = new Counted().full().dropped(23, 0, 12);
        Due.is("the least of 23, 0, 12", t.whole(-1), 0);
        Due.is("then", t.whole(-2), 12);
        Due.is("the last of them", t.whole(-3), 23);
        Due.is("and no more", t.whole(-4), LeastTerms.FULL);
        Counted few = Counted.holding("1", "2", "3", "4", "5").dropped(3, 1);
        Due.is("the least of 3, 1", few.whole(-1), 1);
        Due.is("a place again dropped", few.drop(1), 3);
        Due.is("is given again", few.whole(-2), 1);
        Due.is("then 3", few.whole(-3), 3);
        Due.is("then the first never given", few.whole(-4), 5);
        Due.is("what is there", few.value(1) + " " + few.value(3) + " " + few.value(5), "-2 -3 -4");
        Counted all = new Counted().full();
        for (int a = 23; a >= 0; a--) {
            Due.is("drop(" + a + ")", all.drop(a), a);
        }
        Due.is("the first place of all", all.whole(8), 0);
    }

    /** A place has nothing of what was there before. */
    private static void placesAreNew() {
        Counted t = Counted.holding("-" + Counted.GREATEST + "/2").dropped(0);
        Due.is("a place given again", t.whole(3), 0);
        Due.is("what is there", t.value(0), "3");
        Due.is("whether it is WHOLE", t.of(0, 1), 1);
        Counted zero = Counted.holding("-" + Counted.GREATEST + "/2").dropped(0);
        zero.whole(0);
        Due.is("0 in its place", zero.value(0), "0");
        Due.is("its D's bits", zero.of(0, 3), 1);
    }

    /** "no such NUMBER": places that never were, were not given yet, or were dropped. */
    private static void noSuchNumber() {
        Supplier<Counted> start = () -> Counted.holding("7/3", "0", "12", "18", "1/2").dropped(3).written(0).fed("-12/3");
        for (Open open : OPENS) {
            for (int place : NO_PLACES) {
                Due.answers(open.name + ", p = " + place, start, t -> open.call.answer(t, place), LeastTerms.BAD);
            }
            int[] shown = {-1, 3, 5, 23, 24};
            for (int place : shown) {
                Due.refused(open.name + ", p = " + place, start, t -> open.call.answer(t, place), LeastTerms.BAD);
            }
            Due.answers(open.name + " of a new object", Counted::new, t -> open.call.answer(t, 0), LeastTerms.BAD);
        }
    }

    /** "REFUSALS, the first told: BAD .. FULL": with 24 NUMBERS, too; and the last place is one. */
    private static void noSuchNumberWhenFull() {
        Supplier<Counted> start = () -> Counted.holding("7/3", "0", "12", "18").full().written(0).fed("-12/3");
        for (Open open : OPENS) {
            int[] shown = {-1, 24};
            for (int place : shown) {
                Due.refused(open.name + " with 24, p = " + place, start, t -> open.call.answer(t, place), LeastTerms.BAD);
            }
        }
        Counted t = start.get();
        Due.is("the last place", t.value(23), "123");
        Due.is("the last place written", t.textOf(23), "123");
        Due.is("the last place compared", t.compare(23, 22), 1);
        Due.is("the last place's chain", t.terms(23), 1);
        Due.is("the last place dropped", t.drop(23), 23);
        Due.is("the last place then", t.of(23, 3), LeastTerms.BAD);
    }

    /** Objects share nothing. */
    private static void objectsAreTheirOwn() {
        Counted one = Counted.holding("5", "6").fed("7").written(0);
        Counted other = new Counted();
        Due.is("count of the other", other.count(), 0);
        Due.is("out of the other", other.out(0), LeastTerms.NONE);
        Due.is("feed to the other", other.feed('8'), 1);
        Due.is("what the other reads", other.value(other.read()), "8");
        Due.is("what the first reads", one.value(one.read()), "7");
        Due.is("what the first has written", one.outs(), "5");
    }

    /** "An object is used for at most 512 calls": the 512th is still answered as the first. */
    private static void fiveHundredAndTwelveCalls() {
        Counted t = Counted.holding("-415/93");
        while (t.callsLeft() > 3) {
            Due.is("place of a part", t.part(0, 3), 1);
            Due.is("drop of it", t.drop(1), 1);
        }
        while (t.callsLeft() > 1) {
            Due.is("count", t.count(), 1);
        }
        Due.is("the 512th call", t.terms(0), 5);
    }

    public static void main(String[] args) {
        numberedFromZero();
        twentyFourthAndTwentyFifth();
        leastPlaceFirst();
        placesGivenAgain();
        placesAreNew();
        noSuchNumber();
        noSuchNumberWhenFull();
        objectsAreTheirOwn();
        fiveHundredAndTwelveCalls();
        Due.end("PlacesTest");
    }
}
