/** The four examples of the document, call by call. */
public final class ExamplesTest {
    private static final Checks checks = new Checks("ExamplesTest");

    private static void levelPoints() {
        MonotoneSpline s = new MonotoneSpline();
        checks.same("1: addPoint", s.addPoint(0.0, 1.0, 1.0), 0);
        checks.same("1: addPoint", s.addPoint(1.0, 3.0, 1.0), 1);
        checks.same("1: addPoint", s.addPoint(2.0, 2.0, 1.0), 2);
        checks.same("1: fit", s.fit(), 2);
        checks.same("1: knotValue", s.knotValue(1), 2.5);
        checks.same("1: knotValue", s.knotValue(2), 2.5);
        checks.same("1: value", s.value(0.5), 1.9375);
        checks.same("1: slope", s.slope(1.5), 0.0);
        checks.same("1: flatCount", s.flatCount(), 1);
    }

    private static void curve() {
        MonotoneSpline s = new MonotoneSpline();
        checks.same("2: addPoint", s.addPoint(0.0, 0.0, 1.0), 0);
        checks.same("2: addPoint", s.addPoint(1.0, 1.0, 1.0), 1);
        checks.same("2: addPoint", s.addPoint(2.0, 4.0, 1.0), 2);
        checks.same("2: fit", s.fit(), 3);
        checks.same("2: knotSlope", s.knotSlope(1), 1.5);
        checks.same("2: value", s.value(0.5), 0.4375);
        checks.same("2: area", s.area(0.0, 2.0), 2.8333333333333335);
        checks.same("2: reach", s.reach(1.0), 1.0);
        checks.same("2: insertKnot", s.insertKnot(0.5), 1);
        checks.same("2: isFixed", s.isFixed(1), true);
        checks.same("2: value", s.value(0.5), 0.4375);
    }

    private static void slopeAndTails() {
        MonotoneSpline s = new MonotoneSpline();
        checks.same("3: addPoint", s.addPoint(0.0, 0.0, 1.0), 0);
        checks.same("3: addPoint", s.addPoint(4.0, 2.0, 1.0), 1);
        checks.same("3: fit", s.fit(), 2);
        checks.same("3: fixSlope", s.fixSlope(0, 3.0), 1.5);
        checks.same("3: value", s.value(2.0), 1.5);
        checks.same("3: setTail", s.setTail(1, 2, 0.5), 0);
        checks.same("3: limit", s.limit(1), 2.5);
        checks.same("3: setTail", s.setTail(0, 4, 1.0), 0);
        checks.same("3: limit", s.limit(0), Double.NEGATIVE_INFINITY);
    }

    private static void refusals() {
        MonotoneSpline s = new MonotoneSpline();
        checks.same("4: addPoint", s.addPoint(1.0, 1.0, 1.0), 0);
        checks.refused("4: addPoint", IllegalArgumentException.class, () -> s.addPoint(1.0, 2.0, 1.0));
        checks.refused("4: fit", IllegalStateException.class, () -> s.fit());
        checks.same("4: addPoint", s.addPoint(2.0, 1.5, 0.5), 1);
        checks.same("4: fit", s.fit(), 2);
        checks.refused("4: value", IllegalArgumentException.class, () -> s.value(0.5));
        checks.refused("4: removeKnot", IllegalArgumentException.class, () -> s.removeKnot(1));
        checks.refused("4: setKnotValue", IllegalArgumentException.class, () -> s.setKnotValue(0, 9.0));
    }

    public static void main(String[] args) {
        levelPoints();
        curve();
        slopeAndTails();
        refusals();
        checks.end();
    }
}
