/**
 * The document's sentences on numbers, points and fitting, and promises 1 to 6: each one that names a
 * boundary has a test of its own.
 */
public final class PointBoundaryTest {
    private static final Class<IllegalArgumentException> ARGUMENT = IllegalArgumentException.class;
    private static final Class<IllegalStateException> STATE = IllegalStateException.class;
    private static final Class<IndexOutOfBoundsException> INDEX = IndexOutOfBoundsException.class;
    private static final double NAN = Double.NaN;
    private static final double ENDLESS = Double.POSITIVE_INFINITY;
    private static final double MILLION = 1000000.0;
    private static final double ABOVE_MILLION = Math.nextUp(MILLION);
    private static final double BELOW_SMALL = Math.nextDown(0.000001);
    private static final double[] SMALL = {BELOW_SMALL, -BELOW_SMALL, Double.MIN_VALUE, -Double.MIN_VALUE, 0.0, -0.0};
    private static final double[] NOT_SMALL = {0.000001, -0.000001, Math.nextUp(0.000001), -Math.nextUp(0.000001)};
    private static final double[] OUTSIDE = {ABOVE_MILLION, -ABOVE_MILLION, Double.MAX_VALUE, -Double.MAX_VALUE,
        ENDLESS, -ENDLESS, NAN};

    private static final Checks checks = new Checks("PointBoundaryTest");

    // ---- numbers

    private static void smallPlaceIsTakenAs0() {
        for (double x : SMALL) {
            MonotoneSpline s = Splines.points(x, 5.0);
            checks.same("a place of " + x + " is 0", s.pointPlace(0), 0.0);
        }
    }

    private static void placeOfAMillionthIsKept() {
        for (double x : NOT_SMALL) {
            MonotoneSpline s = Splines.points(x, 5.0);
            checks.same("a place of " + x + " is kept", s.pointPlace(0), x);
        }
    }

    private static void smallValueIsTakenAs0() {
        for (double y : SMALL) {
            MonotoneSpline s = Splines.fitted(1.0, y, 2.0, 7.0);
            checks.same("a value of " + y + " is 0", s.knotValue(0), 0.0);
        }
    }

    private static void valueOfAMillionthIsKept() {
        for (double y : NOT_SMALL) {
            MonotoneSpline s = Splines.fitted(1.0, y, 2.0, 7.0);
            checks.same("a value of " + y + " is kept", s.knotValue(0), y);
        }
    }

    private static void smallPlaceIsTakenAs0ForTheExceptions() {
        MonotoneSpline near = Splines.points(0.0009995, 1.0);
        checks.refused("0 is too near, -0.0000009 would not be", ARGUMENT, () -> near.addPoint(-0.0000009, 1.0, 1.0));
        MonotoneSpline far = Splines.points(0.001, 1.0);
        checks.same("0 is far enough, 0.0000009 would not be", far.addPoint(0.0000009, 1.0, 1.0), 0);
        checks.same("and 0 is what is kept", far.pointPlace(0), 0.0);
    }

    private static void smallWeightIsNotTakenAs0ButRefused() {
        MonotoneSpline s = new MonotoneSpline();
        for (double weight : SMALL) {
            checks.refused("a weight of " + weight, ARGUMENT, () -> s.addPoint(1.0, 1.0, weight));
        }
    }

    private static void smallFittedValueIsNotTakenAs0() {
        MonotoneSpline s = Splines.points(0.0, 0.000001, 1.0, 0.0);
        checks.same("one block of 0.000001 and 0", s.fit(), 1);
        checks.same("its value is computed, not given", s.knotValue(0), 0.0000005);
    }

    // ---- promise 1

    private static void newObjectHasNoPoints() {
        MonotoneSpline s = new MonotoneSpline();
        checks.same("1: no points", s.pointCount(), 0);
        checks.refused("1: no first point", INDEX, () -> s.pointPlace(0));
        checks.refused("1: none to remove", INDEX, () -> s.removePoint(0));
    }

    private static void newObjectHasNoKnots() {
        MonotoneSpline s = new MonotoneSpline();
        checks.same("1: no knots", s.knotCount(), 0);
        checks.refused("1: no first knot", INDEX, () -> s.knotPlace(0));
        checks.refused("1: no limit", STATE, () -> s.limit(0));
    }

    // ---- promise 2

    private static void placeFromMinusAMillionToAMillion() {
        MonotoneSpline s = new MonotoneSpline();
        checks.same("2: the greatest place", s.addPoint(MILLION, 0.0, 1.0), 0);
        checks.same("2: the least place", s.addPoint(-MILLION, 0.0, 1.0), 0);
        checks.same("2: it is kept", s.pointPlace(0), -MILLION);
        checks.same("2: so is the other", s.pointPlace(1), MILLION);
        for (double x : OUTSIDE) {
            MonotoneSpline none = new MonotoneSpline();
            checks.refused("2: the place " + x, ARGUMENT, () -> none.addPoint(x, 0.0, 1.0));
            checks.same("2: no point at " + x, none.pointCount(), 0);
        }
    }

    private static void valueFromMinusAMillionToAMillion() {
        MonotoneSpline s = new MonotoneSpline();
        checks.same("2: the least value", s.addPoint(0.0, -MILLION, 1.0), 0);
        checks.same("2: the greatest value", s.addPoint(1.0, MILLION, 1.0), 1);
        s.fit();
        checks.same("2: it is kept", s.knotValue(0), -MILLION);
        checks.same("2: so is the other", s.knotValue(1), MILLION);
        for (double y : OUTSIDE) {
            MonotoneSpline none = new MonotoneSpline();
            checks.refused("2: the value " + y, ARGUMENT, () -> none.addPoint(0.0, y, 1.0));
            checks.same("2: no point with " + y, none.pointCount(), 0);
        }
    }

    private static void weightFromAThousandthToAThousand() {
        MonotoneSpline s = new MonotoneSpline();
        checks.same("2: the least weight", s.addPoint(0.0, 1.0, 0.001), 0);
        checks.same("2: the greatest weight", s.addPoint(1.0, 0.0, 1000.0), 1);
        checks.same("2: one block", s.fit(), 1);
        checks.same("2: both weights count", s.knotValue(0), (0.001 * 1.0 + 1000.0 * 0.0) / (0.001 + 1000.0));
        double[] wrong = {Math.nextDown(0.001), 0.0009, 0.0, -0.0, -0.001, -1.0, Math.nextUp(1000.0), 1001.0, MILLION,
            ENDLESS, -ENDLESS, NAN};
        for (double weight : wrong) {
            MonotoneSpline none = new MonotoneSpline();
            checks.refused("2: the weight " + weight, ARGUMENT, () -> none.addPoint(0.0, 0.0, weight));
            checks.same("2: no point of " + weight, none.pointCount(), 0);
        }
    }

    private static void placesDifferByAThousandthOrMore() {
        for (double distance : new double[] {0.0, 1e-6, 0.0005, Math.nextDown(0.001)}) {
            MonotoneSpline s = Splines.points(0.0, 1.0);
            checks.refused("2: " + distance + " behind", ARGUMENT, () -> s.addPoint(distance, 1.0, 1.0));
            checks.refused("2: " + distance + " before", ARGUMENT, () -> s.addPoint(-distance, 1.0, 1.0));
            checks.same("2: still one", s.pointCount(), 1);
        }
        MonotoneSpline s = Splines.points(0.0, 1.0);
        checks.same("2: 0.001 behind", s.addPoint(0.001, 1.0, 1.0), 1);
        checks.same("2: 0.001 before", s.addPoint(-0.001, 1.0, 1.0), 0);
    }

    private static void differenceIsComputedAsADouble() {
        MonotoneSpline one = Splines.points(1.0, 1.0);
        checks.refused("2: 1.001 - 1.0 is less than 0.001", ARGUMENT, () -> one.addPoint(1.001, 1.0, 1.0));
        MonotoneSpline other = Splines.points(1.001, 1.0);
        checks.refused("2: 1.0 - 1.001 too", ARGUMENT, () -> other.addPoint(1.0, 1.0, 1.0));
        MonotoneSpline five = Splines.points(5.0, 1.0);
        checks.same("2: 5.001 - 5.0 is not", five.addPoint(5.001, 1.0, 1.0), 1);
    }

    private static void everyPointKeepsItsDistance() {
        MonotoneSpline s = Splines.points(0.0, 1.0, 10.0, 1.0, 20.0, 1.0);
        for (double x : new double[] {0.0005, 9.9995, 10.0005, 19.9995, 20.0005}) {
            checks.refused("2: at " + x, ARGUMENT, () -> s.addPoint(x, 1.0, 1.0));
        }
        checks.same("2: still three", s.pointCount(), 3);
    }

    private static void removedPointIsNearToNone() {
        MonotoneSpline s = Splines.points(0.0, 1.0, 10.0, 1.0);
        s.removePoint(1);
        checks.same("2: where the last one was", s.addPoint(10.0, 1.0, 1.0), 1);
        s.removePoint(0);
        checks.same("2: where the first one was", s.addPoint(0.0005, 1.0, 1.0), 0);
    }

    private static void atMostFortyPoints() {
        MonotoneSpline s = new MonotoneSpline();
        for (int i = 0; i < 40; i++) {
            checks.same("2: point " + i, s.addPoint(i, i, 1.0), i);
        }
        checks.refused("2: one more", STATE, () -> s.addPoint(40.0, 1.0, 1.0));
        checks.refused("2: one more before all", STATE, () -> s.addPoint(-1.0, 1.0, 1.0));
        checks.same("2: forty", s.pointCount(), 40);
        checks.same("2: one less", s.removePoint(0), 39);
        checks.same("2: one again", s.addPoint(40.0, 1.0, 1.0), 39);
        checks.refused("2: and no more", STATE, () -> s.addPoint(41.0, 1.0, 1.0));
    }

    private static void wrongArgumentBeforeFullFitter() {
        MonotoneSpline s = Splines.fortyPoints();
        for (double wrong : OUTSIDE) {
            checks.refused("2: full, the place " + wrong, ARGUMENT, () -> s.addPoint(wrong, 0.0, 1.0));
            checks.refused("2: full, the value " + wrong, ARGUMENT, () -> s.addPoint(100.0, wrong, 1.0));
            checks.refused("2: full, the weight " + wrong, ARGUMENT, () -> s.addPoint(100.0, 0.0, wrong));
        }
        checks.refused("2: full, a place too near", ARGUMENT, () -> s.addPoint(39.0005, 0.0, 1.0));
    }

    private static void ascendingOrderWithIndicesFrom0() {
        MonotoneSpline s = new MonotoneSpline();
        for (int i = 39; i >= 0; i--) {
            checks.same("2: before all others", s.addPoint(i, 1.0, 1.0), 0);
        }
        for (int i = 0; i < 40; i++) {
            checks.same("5: place " + i, s.pointPlace(i), i);
        }
        MonotoneSpline t = Splines.points(-3.0, 1.0, 3.0, 1.0);
        checks.same("2: between", t.addPoint(0.0, 1.0, 1.0), 1);
        checks.same("2: behind all others", t.addPoint(4.0, 1.0, 1.0), 3);
    }

    // ---- promises 3 to 5

    private static void removeNoSuchPoint() {
        for (int count : new int[] {0, 1, 2, 39}) {
            MonotoneSpline s = new MonotoneSpline();
            for (int i = 0; i < count; i++) {
                s.addPoint(i, 1.0, 1.0);
            }
            for (int index : new int[] {-1, count, 39, 40, Integer.MAX_VALUE, Integer.MIN_VALUE}) {
                checks.refused("3: " + index + " of " + count, INDEX, () -> s.removePoint(index));
            }
            checks.same("3: as many as before", s.pointCount(), count);
        }
    }

    private static void removeFirstAndLastPoint() {
        MonotoneSpline s = Splines.fortyPoints();
        checks.same("3: the last of forty", s.removePoint(39), 39);
        checks.same("3: the first", s.removePoint(0), 38);
        checks.same("3: the first one now", s.pointPlace(0), 1.0);
        checks.same("3: the last one now", s.pointPlace(37), 38.0);
        checks.refused("3: none behind it", INDEX, () -> s.removePoint(38));
    }

    private static void removeOnlyPoint() {
        MonotoneSpline s = Splines.points(1.0, 1.0);
        checks.same("3: none left", s.removePoint(0), 0);
        checks.same("4: none", s.pointCount(), 0);
        checks.refused("3: no second time", INDEX, () -> s.removePoint(0));
    }

    private static void removedPointTakesItsValueAndWeightAlong() {
        MonotoneSpline s = new MonotoneSpline();
        s.addPoint(0.0, 50.0, 500.0);
        s.addPoint(1.0, 4.0, 3.0);
        s.addPoint(2.0, 0.0, 1.0);
        s.removePoint(0);
        checks.same("3: one block", s.fit(), 1);
        checks.same("3: of the values and weights that are left", s.knotValue(0), 3.0);
    }

    private static void removedPointLeavesKnots() {
        MonotoneSpline s = Splines.fitted(0.0, 0.0, 1.0, 1.0);
        s.removePoint(1);
        s.removePoint(0);
        checks.same("3: no points", s.pointCount(), 0);
        checks.same("3: two knots", s.knotCount(), 2);
        checks.same("3: still a spline", s.value(0.5), 0.5);
    }

    private static void countOfPoints() {
        MonotoneSpline s = new MonotoneSpline();
        checks.same("4: none", s.pointCount(), 0);
        for (int i = 0; i < 40; i++) {
            s.addPoint(i, 1.0, 1.0);
            checks.same("4: one more", s.pointCount(), i + 1);
        }
        checks.refused("4: a refused one", STATE, () -> s.addPoint(50.0, 1.0, 1.0));
        checks.same("4: does not count", s.pointCount(), 40);
    }

    private static void placeOfNoSuchPoint() {
        MonotoneSpline s = Splines.points(1.0, 1.0, 2.0, 1.0);
        for (int index : new int[] {-1, 2, 39, 40, Integer.MAX_VALUE, Integer.MIN_VALUE}) {
            checks.refused("5: " + index + " of 2", INDEX, () -> s.pointPlace(index));
        }
        s.removePoint(1);
        checks.refused("5: a removed one", INDEX, () -> s.pointPlace(1));
        MonotoneSpline full = Splines.fortyPoints();
        checks.same("5: the last of forty", full.pointPlace(39), 39.0);
        checks.refused("5: 40 of forty", INDEX, () -> full.pointPlace(40));
    }

    // ---- promise 6

    private static void fitOfFewerThanTwoPoints() {
        MonotoneSpline s = new MonotoneSpline();
        checks.refused("6: no points", STATE, () -> s.fit());
        s.addPoint(0.0, 1.0, 1.0);
        checks.refused("6: one point", STATE, () -> s.fit());
        checks.same("6: no knots then", s.knotCount(), 0);
        s.addPoint(1.0, 1.0, 1.0);
        checks.same("6: two points", s.fit(), 2);
        checks.same("6: two knots", s.knotCount(), 2);
    }

    private static void fitRefusedKeepsTheKnots() {
        MonotoneSpline s = Splines.fitted(0.0, 0.0, 1.0, 1.0, 2.0, 5.0);
        s.fixSlope(1, 0.5);
        s.removePoint(2);
        s.removePoint(1);
        checks.refused("6: one point is left", STATE, () -> s.fit());
        checks.same("6: three knots", s.knotCount(), 3);
        checks.same("6: with a fixed slope", s.knotSlope(1), 0.5);
    }

    private static void fitOfFortyPoints() {
        MonotoneSpline up = Splines.fortyPoints();
        checks.same("6: forty blocks", up.fit(), 40);
        checks.same("6: forty knots", up.knotCount(), 40);
        MonotoneSpline down = new MonotoneSpline();
        for (int i = 0; i < 40; i++) {
            down.addPoint(i, -i, 1.0);
        }
        checks.same("6: one block", down.fit(), 1);
        for (int k = 0; k < 40; k++) {
            checks.same("6: the level of all, knot " + k, down.knotValue(k), -19.5);
        }
    }

    private static void equalBlocksAreNotJoined() {
        checks.same("6: two of one value", Splines.points(0.0, 3.0, 1.0, 3.0).fit(), 2);
        MonotoneSpline s = Splines.points(0.0, 2.0, 1.0, 3.0, 2.0, 1.0);
        checks.same("6: a joined one of the value before it", s.fit(), 2);
        checks.same("6: that value", s.knotValue(2), 2.0);
    }

    private static void blockThatIsLessByTheLeastIsJoined() {
        checks.same("6: the next double below 3", Splines.points(0.0, 3.0, 1.0, Math.nextDown(3.0)).fit(), 1);
        checks.same("6: the next double above 3", Splines.points(0.0, 3.0, 1.0, Math.nextUp(3.0)).fit(), 2);
    }

    private static void joiningGoesOnToTheLeft() {
        MonotoneSpline s = Splines.points(0.0, 1.0, 1.0, 2.0, 2.0, 3.0, 3.0, -10.0);
        checks.same("6: down to the first block", s.fit(), 1);
        checks.same("6: the level of all", s.knotValue(0), -1.0);
        MonotoneSpline t = Splines.points(0.0, -20.0, 1.0, 2.0, 2.0, 3.0, 3.0, -11.0);
        checks.same("6: as long as it is less", t.fit(), 2);
        checks.same("6: the first one stays", t.knotValue(0), -20.0);
        checks.same("6: the level of three", t.knotValue(1), -2.0);
    }

    private static void valueOfABlockIsAQuotient() {
        MonotoneSpline s = new MonotoneSpline();
        s.addPoint(0.0, 0.0, 1.0);
        s.addPoint(1.0, MILLION, 0.29);
        s.fit();
        checks.same("6: 0.29 * 1000000 / 0.29", s.knotValue(1), 1000000.0000000001);
    }

    private static void fitTakesThePlaceOfAllFormerKnots() {
        MonotoneSpline s = Splines.sixtyKnots();
        checks.same("6: sixty knots", s.knotCount(), 60);
        for (int k = 0; k < 60; k++) {
            s.fixSlope(k, 0.25);
        }
        s.fit();
        checks.same("6: forty again", s.knotCount(), 40);
        for (int k = 0; k < 40; k++) {
            checks.same("6: knot " + k + " is free", s.isFixed(k), false);
            checks.same("6: the place of knot " + k, s.knotPlace(k), k);
        }
        checks.same("6: room for a knot", s.insertKnot(0.5), 1);
    }

    public static void main(String[] args) {
        smallPlaceIsTakenAs0();
        placeOfAMillionthIsKept();
        smallValueIsTakenAs0();
        valueOfAMillionthIsKept();
        smallPlaceIsTakenAs0ForTheExceptions();
        smallWeightIsNotTakenAs0ButRefused();
        smallFittedValueIsNotTakenAs0();
        newObjectHasNoPoints();
        newObjectHasNoKnots();
        placeFromMinusAMillionToAMillion();
        valueFromMinusAMillionToAMillion();
        weightFromAThousandthToAThousand();
        placesDifferByAThousandthOrMore();
        differenceIsComputedAsADouble();
        everyPointKeepsItsDistance();
        removedPointIsNearToNone();
        atMostFortyPoints();
        wrongArgumentBeforeFullFitter();
        ascendingOrderWithIndicesFrom0();
        removeNoSuchPoint();
        removeFirstAndLastPoint();
        removeOnlyPoint();
        removedPointTakesItsValueAndWeightAlong();
        removedPointLeavesKnots();
        countOfPoints();
        placeOfNoSuchPoint();
        fitOfFewerThanTwoPoints();
        fitRefusedKeepsTheKnots();
        fitOfFortyPoints();
        equalBlocksAreNotJoined();
        blockThatIsLessByTheLeastIsJoined();
        joiningGoesOnToTheLeft();
        valueOfABlockIsAQuotient();
        fitTakesThePlaceOfAllFormerKnots();
        checks.end();
    }
}
