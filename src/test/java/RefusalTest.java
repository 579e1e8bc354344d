import java.util.function.Consumer;
import java.util.function.Supplier;

/**
 * The document's general sentences on exceptions: a method that throws one changes nothing, the one that
 * is named first is thrown, and a number from a to b is asked for where no number at all is given.
 */
public final class RefusalTest {
    private static final Class<IllegalArgumentException> ARGUMENT = IllegalArgumentException.class;
    private static final Class<IllegalStateException> STATE = IllegalStateException.class;
    private static final Class<IndexOutOfBoundsException> INDEX = IndexOutOfBoundsException.class;
    private static final double NAN = Double.NaN;
    private static final double MILLION = 1000000.0;

    private static final Checks checks = new Checks("RefusalTest");

    private static MonotoneSpline onePoint() {
        return Splines.points(5.0, 1.0);
    }

    /** Slopes fixed above their limits and points unlike the knots, so that more is held than is seen. */
    private static MonotoneSpline bent() {
        MonotoneSpline s = new MonotoneSpline();
        s.addPoint(0.0, 1.0, 2.0);
        s.addPoint(1.0, 3.0, 0.5);
        s.addPoint(2.0, 2.0, 7.0);
        s.addPoint(3.0, 6.0, 1.0);
        s.fit();
        s.fixSlope(0, 20.0);
        s.fixSlope(2, 30.0);
        s.insertKnot(2.5);
        s.addPoint(4.0, 5.0, 3.0);
        s.setTail(0, 2, 0.25);
        s.setTail(1, 1, -3.0);
        return s;
    }

    private static MonotoneSpline full() {
        MonotoneSpline s = Splines.sixtyKnots();
        for (int k = 0; k < 60; k += 3) {
            s.fixSlope(k, 50.0 + k);
        }
        s.setTail(0, 6, 1.0);
        s.setTail(1, 3, 2.0);
        return s;
    }

    /** What is held but not seen: the fixed slopes show where the limits are raised, the points in a fit. */
    private static String allOf(MonotoneSpline s) {
        StringBuilder all = new StringBuilder(Splines.stateOf(s));
        int last = s.knotCount() - 1;
        if (last >= 0) {
            s.setKnotValue(last, MILLION);
            s.setKnotValue(0, -MILLION);
            all.append(Splines.stateOf(s));
        }
        for (int k = last - 1; k > 0; k--) {
            s.removeKnot(k);
            all.append(Splines.stateOf(s));
        }
        if (s.pointCount() > 1) {
            all.append(s.fit()).append(Splines.stateOf(s));
        }
        for (int end = 0; end < 2; end++) {
            all.append(s.setTail(end, 0, 0.0));
        }
        return all.toString();
    }

    private static void refusedWithoutAChange(String what, Class<? extends RuntimeException> due,
            Supplier<MonotoneSpline> recipe, Consumer<MonotoneSpline> call) {
        MonotoneSpline s = recipe.get();
        checks.refused(what, due, () -> call.accept(s));
        checks.refused(what + ", again", due, () -> call.accept(s));
        checks.same(what + " changes nothing", allOf(s), allOf(recipe.get()));
    }

    private static void pointsRefused() {
        refusedWithoutAChange("2: a place", ARGUMENT, RefusalTest::bent, s -> s.addPoint(2 * MILLION, 0.0, 1.0));
        refusedWithoutAChange("2: a value", ARGUMENT, RefusalTest::bent, s -> s.addPoint(9.0, 2 * MILLION, 1.0));
        refusedWithoutAChange("2: a weight", ARGUMENT, RefusalTest::bent, s -> s.addPoint(9.0, 0.0, 0.0));
        refusedWithoutAChange("2: too near", ARGUMENT, RefusalTest::bent, s -> s.addPoint(2.0005, 0.0, 1.0));
        refusedWithoutAChange("2: the 41st", STATE, RefusalTest::full, s -> s.addPoint(9.5, 0.0, 1.0));
        refusedWithoutAChange("3: a point", INDEX, RefusalTest::bent, s -> s.removePoint(5));
        refusedWithoutAChange("5: a point", INDEX, RefusalTest::bent, s -> s.pointPlace(5));
        refusedWithoutAChange("6: no points", STATE, MonotoneSpline::new, s -> s.fit());
        refusedWithoutAChange("6: one point", STATE, RefusalTest::onePoint, s -> s.fit());
    }

    private static void knotsRefused() {
        refusedWithoutAChange("8: a knot", INDEX, RefusalTest::bent, s -> s.knotPlace(5));
        refusedWithoutAChange("9: a knot", INDEX, RefusalTest::bent, s -> s.knotValue(5));
        refusedWithoutAChange("10: a knot", INDEX, RefusalTest::bent, s -> s.knotSlope(5));
        refusedWithoutAChange("11: a knot", INDEX, RefusalTest::bent, s -> s.isFixed(5));
        refusedWithoutAChange("12: outside", ARGUMENT, RefusalTest::bent, s -> s.insertKnot(3.5));
        refusedWithoutAChange("12: too near", ARGUMENT, RefusalTest::bent, s -> s.insertKnot(2.50005));
        refusedWithoutAChange("12: the 61st", STATE, RefusalTest::full, s -> s.insertKnot(30.5));
        refusedWithoutAChange("13: a knot", INDEX, RefusalTest::bent, s -> s.removeKnot(5));
        refusedWithoutAChange("13: the first", ARGUMENT, RefusalTest::bent, s -> s.removeKnot(0));
        refusedWithoutAChange("13: the last", ARGUMENT, RefusalTest::bent, s -> s.removeKnot(4));
        refusedWithoutAChange("14: a knot", INDEX, RefusalTest::bent, s -> s.setKnotValue(5, 2.0));
        refusedWithoutAChange("14: a value", ARGUMENT, RefusalTest::bent, s -> s.setKnotValue(0, -2 * MILLION));
        refusedWithoutAChange("14: less", ARGUMENT, RefusalTest::bent, s -> s.setKnotValue(1, 0.5));
        refusedWithoutAChange("14: greater", ARGUMENT, RefusalTest::bent, s -> s.setKnotValue(1, 5.5));
        refusedWithoutAChange("15: a knot", INDEX, RefusalTest::bent, s -> s.fixSlope(5, 2.0));
        refusedWithoutAChange("15: a fixed slope", ARGUMENT, RefusalTest::bent, s -> s.fixSlope(0, -1.0));
        refusedWithoutAChange("15: a free slope", ARGUMENT, RefusalTest::bent, s -> s.fixSlope(1, 2 * MILLION));
        refusedWithoutAChange("16: a knot", INDEX, RefusalTest::bent, s -> s.freeSlope(5));
    }

    private static void questionsRefused() {
        refusedWithoutAChange("17: a place", ARGUMENT, RefusalTest::bent, s -> s.value(3.5));
        refusedWithoutAChange("18: a place", ARGUMENT, RefusalTest::bent, s -> s.slope(-0.5));
        refusedWithoutAChange("19: from", ARGUMENT, RefusalTest::bent, s -> s.area(-0.5, 1.0));
        refusedWithoutAChange("19: to", ARGUMENT, RefusalTest::bent, s -> s.area(1.0, 3.5));
        refusedWithoutAChange("20: a value", ARGUMENT, RefusalTest::bent, s -> s.reach(60.0));
        refusedWithoutAChange("23: an end", INDEX, RefusalTest::bent, s -> s.setTail(2, 1, 1.0));
        refusedWithoutAChange("23: a kind", ARGUMENT, RefusalTest::bent, s -> s.setTail(0, 7, 1.0));
        refusedWithoutAChange("23: a factor", ARGUMENT, RefusalTest::bent, s -> s.setTail(1, 2, 2 * MILLION));
        refusedWithoutAChange("23: no factor", ARGUMENT, RefusalTest::bent, s -> s.setTail(1, 5, 0.0));
        refusedWithoutAChange("24: an end", INDEX, RefusalTest::bent, s -> s.limit(2));
        refusedWithoutAChange("24: no knots", STATE, RefusalTest::onePoint, s -> s.limit(1));
    }

    private static void firstNamedExceptionIsThrown() {
        refusedWithoutAChange("2: a place, and full", ARGUMENT, RefusalTest::full, s -> s.addPoint(NAN, 0.0, 1.0));
        refusedWithoutAChange("2: a value, and full", ARGUMENT, RefusalTest::full, s -> s.addPoint(9.5, NAN, 1.0));
        refusedWithoutAChange("2: a weight, and full", ARGUMENT, RefusalTest::full, s -> s.addPoint(9.5, 0.0, NAN));
        refusedWithoutAChange("2: near, and full", ARGUMENT, RefusalTest::full, s -> s.addPoint(9.0, 0.0, 1.0));
        refusedWithoutAChange("12: outside, and full", ARGUMENT, RefusalTest::full, s -> s.insertKnot(39.5));
        refusedWithoutAChange("12: near, and full", ARGUMENT, RefusalTest::full, s -> s.insertKnot(30.00001));
        refusedWithoutAChange("13: no knot, none at all", INDEX, RefusalTest::onePoint, s -> s.removeKnot(0));
        refusedWithoutAChange("14: no knot and a value", INDEX, RefusalTest::bent, s -> s.setKnotValue(-1, NAN));
        refusedWithoutAChange("15: no knot and a slope", INDEX, RefusalTest::bent, s -> s.fixSlope(-1, NAN));
        refusedWithoutAChange("23: no end and a kind", INDEX, RefusalTest::bent, s -> s.setTail(-1, 7, 1.0));
        refusedWithoutAChange("23: no end and a factor", INDEX, RefusalTest::bent, s -> s.setTail(-1, 4, 0.0));
        refusedWithoutAChange("24: no end, no knots", INDEX, RefusalTest::onePoint, s -> s.limit(2));
    }

    private static void noNumberAtAll() {
        refusedWithoutAChange("2: a place", ARGUMENT, MonotoneSpline::new, s -> s.addPoint(NAN, 0.0, 1.0));
        refusedWithoutAChange("2: a value", ARGUMENT, MonotoneSpline::new, s -> s.addPoint(0.0, NAN, 1.0));
        refusedWithoutAChange("2: a weight", ARGUMENT, MonotoneSpline::new, s -> s.addPoint(0.0, 0.0, NAN));
        refusedWithoutAChange("12: a place", ARGUMENT, RefusalTest::bent, s -> s.insertKnot(NAN));
        refusedWithoutAChange("14: the first value", ARGUMENT, RefusalTest::bent, s -> s.setKnotValue(0, NAN));
        refusedWithoutAChange("14: a value between", ARGUMENT, RefusalTest::bent, s -> s.setKnotValue(1, NAN));
        refusedWithoutAChange("14: the last value", ARGUMENT, RefusalTest::bent, s -> s.setKnotValue(4, NAN));
        refusedWithoutAChange("15: a slope", ARGUMENT, RefusalTest::bent, s -> s.fixSlope(1, NAN));
        refusedWithoutAChange("17: a place", ARGUMENT, RefusalTest::bent, s -> s.value(NAN));
        refusedWithoutAChange("18: a place", ARGUMENT, RefusalTest::bent, s -> s.slope(NAN));
        refusedWithoutAChange("19: from", ARGUMENT, RefusalTest::bent, s -> s.area(NAN, 1.0));
        refusedWithoutAChange("19: to", ARGUMENT, RefusalTest::bent, s -> s.area(1.0, NAN));
        refusedWithoutAChange("20: a value", ARGUMENT, RefusalTest::bent, s -> s.reach(NAN));
        for (int i = 0; i <= 6; i++) {
            int kind = i;
            refusedWithoutAChange("23: a factor of kind " + kind, ARGUMENT, RefusalTest::bent,
                s -> s.setTail(0, kind, NAN));
        }
    }

    public static void main(String[] args) {
        pointsRefused();
        knotsRefused();
        questionsRefused();
        firstNamedExceptionIsThrown();
        noNumberAtAll();
        checks.end();
    }
}
