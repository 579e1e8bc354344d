/** Each promise of the document by its number: ordinary inputs, the edges, and wrong inputs. */
public final class PromiseTest {
    private static final Class<IllegalArgumentException> ARGUMENT = IllegalArgumentException.class;
    private static final Class<IllegalStateException> STATE = IllegalStateException.class;
    private static final Class<IndexOutOfBoundsException> INDEX = IndexOutOfBoundsException.class;
    private static final double NAN = Double.NaN;
    private static final double ENDLESS = Double.POSITIVE_INFINITY;
    private static final double MILLION = 1000000.0;
    private static final double ABOVE_MILLION = Math.nextUp(MILLION);

    private static final Checks checks = new Checks("PromiseTest");

    private static void newObject() {
        MonotoneSpline s = new MonotoneSpline();
        checks.same("1: no points", s.pointCount(), 0);
        checks.same("1: no knots", s.knotCount(), 0);
        checks.same("1: no steepest piece", s.steepest(), -1);
        checks.same("1: no flat pieces", s.flatCount(), 0);
        checks.same("1: the digest", s.digest(), 59L * 31 * 31 * 31 * 31);
        checks.same("1: tail 0", s.setTail(0, 1, 1.0), 0);
        checks.same("1: tail 1", s.setTail(1, 1, 1.0), 0);
        MonotoneSpline other = Splines.points(1.0, 1.0);
        checks.same("1: objects share nothing", s.pointCount() + 10 * other.pointCount(), 10);
    }

    private static void addPoint() {
        MonotoneSpline s = new MonotoneSpline();
        checks.same("2: the first", s.addPoint(5.0, 1.0, 1.0), 0);
        checks.same("2: behind it", s.addPoint(7.0, 1.0, 1.0), 1);
        checks.same("2: before both", s.addPoint(-5.0, 1.0, 1.0), 0);
        checks.same("2: between", s.addPoint(6.0, 1.0, 1.0), 2);
        checks.same("2: the ranges' ends", s.addPoint(-MILLION, -MILLION, 0.001), 0);
        checks.same("2: the ranges' other ends", s.addPoint(MILLION, MILLION, 1000.0), 5);
        for (double wrong : new double[] {ABOVE_MILLION, -ABOVE_MILLION, NAN, ENDLESS, -ENDLESS, Double.MAX_VALUE}) {
            checks.refused("2: the place " + wrong, ARGUMENT, () -> s.addPoint(wrong, 0.0, 1.0));
            checks.refused("2: the value " + wrong, ARGUMENT, () -> s.addPoint(0.0, wrong, 1.0));
            MonotoneSpline empty = new MonotoneSpline();
            checks.refused("2: far from others, " + wrong, ARGUMENT, () -> empty.addPoint(wrong, 0.0, 1.0));
        }
        double[] weights = {Math.nextDown(0.001), Math.nextUp(1000.0), 0.0, -1.0, 1e-7, NAN, ENDLESS, -ENDLESS};
        for (double wrong : weights) {
            checks.refused("2: the weight " + wrong, ARGUMENT, () -> s.addPoint(0.0, 0.0, wrong));
        }
        checks.same("2: what is refused changes nothing", s.pointCount(), 6);
    }

    private static void addPointNearby() {
        MonotoneSpline s = Splines.points(0.0, 0.0, 1.0, 0.0, 5.0, 0.0, 10.0, 0.0);
        checks.refused("2: the same place", ARGUMENT, () -> s.addPoint(5.0, 9.0, 1.0));
        checks.refused("2: less than 0.001 behind", ARGUMENT, () -> s.addPoint(0.000999, 0.0, 1.0));
        checks.refused("2: less than 0.001 before", ARGUMENT, () -> s.addPoint(-0.000999, 0.0, 1.0));
        checks.refused("2: less than 0.001 behind the last", ARGUMENT, () -> s.addPoint(10.0009, 0.0, 1.0));
        checks.refused("2: 1.001 - 1.0 is less than 0.001", ARGUMENT, () -> s.addPoint(1.001, 0.0, 1.0));
        checks.same("2: 5.001 - 5.0 is not", s.addPoint(5.001, 0.0, 1.0), 3);
        checks.same("2: 0.001 itself", s.addPoint(0.001, 0.0, 1.0), 1);
        checks.same("2: -0.001 itself", s.addPoint(-0.001, 0.0, 1.0), 0);
        checks.same("2: three more", s.pointCount(), 7);
    }

    private static void addSmallNumbers() {
        MonotoneSpline s = new MonotoneSpline();
        checks.same("2: a small place", s.addPoint(-0.0000009, -0.0000009, 1.0), 0);
        checks.same("2: it is 0", s.pointPlace(0), 0.0);
        checks.same("2: 0.001 away from 0", s.addPoint(0.001, 0.0000009, 1.0), 1);
        checks.same("2: -0.001 away from 0", s.addPoint(-0.001, -0.000001, 1.0), 0);
        checks.same("2: three blocks", s.fit(), 3);
        checks.same("2: a value that is not small", s.knotValue(0), -0.000001);
        checks.same("2: a small value", s.knotValue(1), 0.0);
        checks.same("2: another small value", s.knotValue(2), 0.0);
        MonotoneSpline t = Splines.points(0.001, 0.0, -0.001, 0.0);
        checks.same("2: a small place is 0 before it is compared", t.addPoint(0.0000009, 0.0, 1.0), 1);
        MonotoneSpline u = Splines.points(0.0009995, 0.0);
        checks.refused("2: also for what is refused", ARGUMENT, () -> u.addPoint(-0.0000009, 0.0, 1.0));
        checks.same("2: a place that is not small", u.addPoint(-0.000001, 0.0, 1.0), 0);
        checks.same("2: it is kept", u.pointPlace(0), -0.000001);
        MonotoneSpline v = Splines.points(-0.0, -0.0);
        checks.same("2: -0.0 is 0", v.pointPlace(0), 0.0);
    }

    private static MonotoneSpline fortyPoints() {
        MonotoneSpline s = new MonotoneSpline();
        for (int i = 0; i < 40; i++) {
            checks.same("2: point " + i, s.addPoint(i, i, 1.0), i);
        }
        return s;
    }

    private static void addTooManyPoints() {
        MonotoneSpline s = fortyPoints();
        checks.refused("2: the 41st", STATE, () -> s.addPoint(100.0, 1.0, 1.0));
        checks.refused("2: the 41st, between", STATE, () -> s.addPoint(0.5, 1.0, 1.0));
        checks.refused("2: the 41st, too near", ARGUMENT, () -> s.addPoint(3.0, 1.0, 1.0));
        checks.refused("2: the 41st, a wrong place", ARGUMENT, () -> s.addPoint(NAN, 1.0, 1.0));
        checks.refused("2: the 41st, a wrong value", ARGUMENT, () -> s.addPoint(100.0, ABOVE_MILLION, 1.0));
        checks.refused("2: the 41st, a wrong weight", ARGUMENT, () -> s.addPoint(100.0, 1.0, 0.0));
        checks.same("2: still 40", s.pointCount(), 40);
        s.removePoint(39);
        checks.same("2: room again", s.addPoint(0.5, 0.5, 1.0), 1);
        checks.same("2: the last place", s.pointPlace(39), 38.0);
    }

    private static void removePoint() {
        MonotoneSpline s = Splines.fitted(0.0, 0.0, 1.0, 1.0, 2.0, 4.0);
        checks.refused("3: -1", INDEX, () -> s.removePoint(-1));
        checks.refused("3: the count", INDEX, () -> s.removePoint(3));
        checks.refused("3: far", INDEX, () -> s.removePoint(Integer.MAX_VALUE));
        checks.refused("3: far below", INDEX, () -> s.removePoint(Integer.MIN_VALUE));
        checks.same("3: one between", s.removePoint(1), 2);
        checks.same("3: the next one moves down", s.pointPlace(1), 2.0);
        checks.same("3: the knots stay", s.knotCount(), 3);
        checks.same("3: a new point takes its value along", s.addPoint(1.0, 3.0, 1.0), 1);
        checks.same("3: the fit", s.fit(), 3);
        checks.same("3: its value", s.knotValue(1), 3.0);
        checks.same("3: the value behind it", s.knotValue(2), 4.0);
        checks.same("3: the last", s.removePoint(2), 2);
        checks.same("3: the first", s.removePoint(0), 1);
        checks.same("3: what is left", s.pointPlace(0), 1.0);
        checks.same("3: the only one", s.removePoint(0), 0);
        checks.refused("3: none left", INDEX, () -> s.removePoint(0));
    }

    private static void removePointWithWeight() {
        MonotoneSpline s = new MonotoneSpline();
        s.addPoint(0.0, 0.0, 5.0);
        s.addPoint(1.0, 4.0, 3.0);
        s.addPoint(2.0, 0.0, 1.0);
        s.removePoint(0);
        s.fit();
        checks.same("3: weights move along", s.knotValue(0), 3.0);
    }

    private static void pointCount() {
        MonotoneSpline s = Splines.points(0.0, 0.0, 1.0, 0.0);
        checks.same("4: two", s.pointCount(), 2);
        s.fit();
        s.insertKnot(0.5);
        checks.same("4: knots do not count", s.pointCount(), 2);
        s.removePoint(1);
        checks.same("4: one", s.pointCount(), 1);
    }

    private static void pointPlace() {
        MonotoneSpline s = Splines.points(3.0, 0.0, -1.5, 0.0, 2.25, 0.0);
        checks.same("5: the first", s.pointPlace(0), -1.5);
        checks.same("5: the second", s.pointPlace(1), 2.25);
        checks.same("5: the last", s.pointPlace(2), 3.0);
        checks.refused("5: -1", INDEX, () -> s.pointPlace(-1));
        checks.refused("5: the count", INDEX, () -> s.pointPlace(3));
        checks.refused("5: within the row, but no point", INDEX, () -> s.pointPlace(39));
        checks.refused("5: no points", INDEX, () -> new MonotoneSpline().pointPlace(0));
    }

    private static void fit() {
        MonotoneSpline s = Splines.points(0.0, 1.0, 1.0, 3.0, 2.0, 2.0, 3.0, 2.0, 4.0, -7.0, 5.0, 9.0);
        checks.same("6: blocks that join again and again", s.fit(), 2);
        checks.same("6: the level of five", s.knotValue(0), 0.2);
        checks.same("6: of all five", s.knotValue(4), 0.2);
        checks.same("6: the last", s.knotValue(5), 9.0);
        checks.same("6: a knot for each point", s.knotCount(), 6);
        checks.same("6: equal values do not join", Splines.points(0.0, 2.0, 1.0, 2.0, 2.0, 2.0).fit(), 3);
        MonotoneSpline t = new MonotoneSpline();
        t.addPoint(0.0, 4.0, 3.0);
        t.addPoint(1.0, 0.0, 1.0);
        t.addPoint(2.0, 3.5, 0.1);
        checks.same("6: blocks with weights", t.fit(), 2);
        checks.same("6: their level", t.knotValue(1), 3.0);
        checks.same("6: a product and a quotient round", t.knotValue(2), 0.1 * 3.5 / 0.1);
        checks.refused("6: no points", STATE, () -> new MonotoneSpline().fit());
        checks.refused("6: one point", STATE, () -> Splines.points(1.0, 1.0).fit());
    }

    private static void fitRounds() {
        MonotoneSpline s = new MonotoneSpline();
        s.addPoint(0.0, 0.7, 0.1);
        s.addPoint(1.0, 0.6, 0.2);
        s.addPoint(2.0, 0.5, 0.3);
        checks.same("6: one block", s.fit(), 1);
        double products = 0.1 * 0.7 + 0.2 * 0.6 + 0.3 * 0.5;
        checks.same("6: sums from the left", s.knotValue(2), products / (0.1 + 0.2 + 0.3));
        MonotoneSpline t = new MonotoneSpline();
        t.addPoint(0.0, 0.8, 0.1);
        t.addPoint(1.0, 0.9, 0.2);
        t.addPoint(2.0, 0.3, 0.7);
        checks.same("6: the two on the right join first", t.fit(), 1);
        double right = 0.2 * 0.9 + 0.7 * 0.3;
        checks.same("6: the left sum plus theirs", t.knotValue(0), (0.1 * 0.8 + right) / (0.1 + (0.2 + 0.7)));
    }

    private static void fitAgain() {
        MonotoneSpline s = Splines.fitted(0.0, 0.0, 1.0, 1.0, 2.0, 4.0);
        s.insertKnot(0.5);
        s.fixSlope(0, 0.5);
        s.setTail(1, 2, 0.5);
        s.removePoint(2);
        checks.same("6: fit again", s.fit(), 2);
        checks.same("6: the former knots are gone", s.knotCount(), 2);
        checks.same("6: no slope is fixed", s.isFixed(0) || s.isFixed(1), false);
        checks.same("6: the tail stays", s.limit(1), 1.5);
        checks.same("6: the points stay", s.pointCount(), 2);
        s.fixSlope(0, 0.5);
        s.removePoint(0);
        checks.refused("6: too few points now", STATE, () -> s.fit());
        checks.same("6: the knots stay then", s.knotCount(), 2);
        checks.same("6: and their slopes", s.isFixed(0), true);
    }

    private static void knotCount() {
        MonotoneSpline s = Splines.points(0.0, 0.0, 1.0, 1.0);
        checks.same("7: none without a fit", s.knotCount(), 0);
        s.fit();
        checks.same("7: two", s.knotCount(), 2);
        s.insertKnot(0.5);
        checks.same("7: three", s.knotCount(), 3);
        s.removeKnot(1);
        checks.same("7: two again", s.knotCount(), 2);
    }

    private static void knotPlaceAndValue() {
        MonotoneSpline s = Splines.fitted(4.0, 5.0, -2.0, -3.0, 1.0, 2.0);
        checks.same("8: the first", s.knotPlace(0), -2.0);
        checks.same("8: between", s.knotPlace(1), 1.0);
        checks.same("8: the last", s.knotPlace(2), 4.0);
        checks.refused("8: -1", INDEX, () -> s.knotPlace(-1));
        checks.refused("8: the count", INDEX, () -> s.knotPlace(3));
        checks.refused("8: without a fit", INDEX, () -> Splines.points(1.0, 1.0).knotPlace(0));
        checks.same("9: the first", s.knotValue(0), -3.0);
        checks.same("9: between", s.knotValue(1), 2.0);
        checks.same("9: the last", s.knotValue(2), 5.0);
        checks.refused("9: -1", INDEX, () -> s.knotValue(-1));
        checks.refused("9: the count", INDEX, () -> s.knotValue(3));
        checks.refused("9: without a fit", INDEX, () -> Splines.points(1.0, 1.0).knotValue(0));
    }

    private static void knotSlope() {
        MonotoneSpline s = Splines.fitted(0.0, 0.0, 1.0, 1.0, 3.0, 5.0, 4.0, 5.0, 5.0, 6.0);
        checks.same("10: the first", s.knotSlope(0), 1.0);
        checks.same("10: widths 1 and 2", s.knotSlope(1), 9.0 / (5.0 / 1.0 + 4.0 / 2.0));
        checks.same("10: before a flat piece", s.knotSlope(2), 0.0);
        checks.same("10: behind a flat piece", s.knotSlope(3), 0.0);
        checks.same("10: the last", s.knotSlope(4), 1.0);
        checks.refused("10: -1", INDEX, () -> s.knotSlope(-1));
        checks.refused("10: the count", INDEX, () -> s.knotSlope(5));
        checks.refused("10: without a fit", INDEX, () -> new MonotoneSpline().knotSlope(0));
        MonotoneSpline r = Splines.fitted(0.0, 0.0, 3.0, 1.5, 5.0, 6.5);
        checks.same("10: widths 3 and 2", r.knotSlope(1), 15.0 / (7.0 / 0.5 + 8.0 / 2.5));
        MonotoneSpline t = Splines.fitted(0.0, 0.0, 1.0, 1.0, 2.0, 5.0);
        t.fixSlope(1, 2.5);
        checks.same("10: fixed", t.knotSlope(1), 2.5);
        t.fixSlope(1, 3.0);
        checks.same("10: fixed at the limit", t.knotSlope(1), 3.0);
        t.fixSlope(1, 3.5);
        checks.same("10: fixed above the limit", t.knotSlope(1), 3.0);
        t.fixSlope(2, 100.0);
        checks.same("10: the last one's limit", t.knotSlope(2), 12.0);
        t.setKnotValue(1, 4.0);
        checks.same("10: a limit that moves", t.knotSlope(1), 3.0);
        t.setKnotValue(1, 2.0);
        checks.same("10: a fixed slope is kept whole", t.knotSlope(1), 3.5);
        t.setKnotValue(1, 0.0);
        checks.same("10: a fixed slope beside a flat piece", t.knotSlope(1), 0.0);
    }

    private static void isFixed() {
        MonotoneSpline s = Splines.fitted(0.0, 0.0, 1.0, 1.0, 2.0, 4.0);
        checks.same("11: free at first", s.isFixed(1), false);
        s.fixSlope(1, 0.0);
        checks.same("11: fixed at 0", s.isFixed(1), true);
        checks.same("11: its neighbours", s.isFixed(0) || s.isFixed(2), false);
        s.freeSlope(1);
        checks.same("11: free again", s.isFixed(1), false);
        checks.refused("11: -1", INDEX, () -> s.isFixed(-1));
        checks.refused("11: the count", INDEX, () -> s.isFixed(3));
        checks.refused("11: without a fit", INDEX, () -> new MonotoneSpline().isFixed(0));
    }

    private static void insertKnot() {
        MonotoneSpline s = Splines.fitted(0.0, 0.0, 1.0, 1.0, 2.0, 4.0);
        s.fixSlope(0, 2.0);
        s.fixSlope(2, 5.0);
        double height = s.value(1.25);
        double slope = s.slope(1.25);
        checks.same("12: its index", s.insertKnot(1.25), 2);
        checks.same("12: its place", s.knotPlace(2), 1.25);
        checks.same("12: its value", s.knotValue(2), height);
        checks.same("12: its slope", s.knotSlope(2), slope);
        checks.same("12: the slope is fixed", s.isFixed(2), true);
        checks.same("12: the knot behind moves with its slope", s.isFixed(3), true);
        checks.same("12: the first keeps its own", s.isFixed(0), true);
        checks.same("12: the one before is free", s.isFixed(1), false);
        checks.same("12: into the first piece", s.insertKnot(0.5), 1);
        checks.same("12: five knots", s.knotCount(), 5);
        checks.same("12: the points stay", s.pointCount(), 3);
    }

    private static void insertWrongKnot() {
        MonotoneSpline s = Splines.fitted(-1.0, 0.0, 0.0, 1.0, 1.0, 4.0);
        double[] wrong = {-1.0, 1.0, 0.0, -1.5, 1.5, NAN, ENDLESS, -ENDLESS, -0.00009, 0.00009, -0.99995, 0.99995,
            0.0000009, -0.0000009, -0.0, Math.nextDown(0.0001), -Math.nextDown(0.0001)};
        for (double x : wrong) {
            checks.refused("12: at " + x, ARGUMENT, () -> s.insertKnot(x));
        }
        checks.same("12: what is refused changes nothing", s.knotCount(), 3);
        checks.same("12: 0.0001 behind a knot", s.insertKnot(0.0001), 2);
        checks.same("12: 0.0001 before a knot", s.insertKnot(-0.0001), 1);
        checks.refused("12: no knots", ARGUMENT, () -> Splines.points(0.0, 0.0, 1.0, 1.0).insertKnot(0.5));
        MonotoneSpline t = Splines.fitted(-1.0, 0.0, 1.0, 4.0);
        checks.same("12: a small place", t.insertKnot(-0.0000009), 1);
        checks.same("12: it is 0", t.knotPlace(1), 0.0);
        MonotoneSpline u = Splines.fitted(0.000001, 0.0, 1.0, 4.0);
        checks.refused("12: a small place is 0 before it is compared", ARGUMENT, () -> u.insertKnot(0.00000099));
    }

    private static void insertTooManyKnots() {
        MonotoneSpline s = fortyPoints();
        s.fit();
        for (int i = 0; i < 20; i++) {
            checks.same("12: knot " + (40 + i), s.insertKnot(i + 0.5), 2 * i + 1);
        }
        checks.refused("12: the 61st", STATE, () -> s.insertKnot(30.5));
        checks.refused("12: the 61st, too near", ARGUMENT, () -> s.insertKnot(30.0));
        checks.refused("12: the 61st, outside", ARGUMENT, () -> s.insertKnot(40.0));
        checks.refused("12: the 61st, no number", ARGUMENT, () -> s.insertKnot(NAN));
        checks.same("12: still 60", s.knotCount(), 60);
        checks.same("12: the last one", s.knotPlace(59), 39.0);
        s.removeKnot(1);
        checks.same("12: room again", s.insertKnot(30.5), 50);
    }

    private static void insertKnotThatRoundingMoves() {
        MonotoneSpline s = Splines.fitted(-530000.0, 3.0, 670000.0, 9.0);
        s.fixSlope(0, MILLION);
        s.fixSlope(1, 0.0);
        checks.isTrue("12: the spline is above the value behind", s.value(669999.287) > 9.0);
        s.insertKnot(669999.287);
        checks.same("12: the value behind instead", s.knotValue(1), 9.0);
        MonotoneSpline t = Splines.fitted(4.1, 2.1, 6.3999999999999995, 5.2);
        t.fixSlope(0, MILLION);
        t.fixSlope(1, MILLION);
        double middle = (4.1 + 6.3999999999999995) / 2;
        checks.isTrue("12: the slope is negative", t.slope(middle) < 0.0);
        t.insertKnot(middle);
        checks.same("12: 0 instead", t.knotSlope(1), 0.0);
        t.setKnotValue(0, 0.0);
        checks.same("12: 0 is what was fixed", t.knotSlope(1), 0.0);
    }

    private static void insertKnotBelow() {
        MonotoneSpline s = Splines.tinyValues();
        checks.same("12: a tiny value", s.knotValue(1), 106 * Double.MIN_VALUE);
        checks.isTrue("12: the spline is below the value before", s.value(28.614) < 0.0);
        checks.isTrue("12: its slope is negative", s.slope(28.614) < 0.0);
        checks.same("12: a knot there", s.insertKnot(28.614), 1);
        checks.same("12: the value before instead", s.knotValue(1), 0.0);
        checks.same("12: and 0 for its slope", s.knotSlope(1), 0.0);
        checks.same("25: bits of tiny numbers", s.digest(), digestOf(s, 22, 0, 0));
    }

    private static void removeKnot() {
        MonotoneSpline s = Splines.fitted(0.0, 0.0, 1.0, 1.0, 2.0, 4.0, 3.0, 5.0);
        s.fixSlope(2, 0.25);
        checks.refused("13: -1", INDEX, () -> s.removeKnot(-1));
        checks.refused("13: the count", INDEX, () -> s.removeKnot(4));
        checks.refused("13: the first", ARGUMENT, () -> s.removeKnot(0));
        checks.refused("13: the last", ARGUMENT, () -> s.removeKnot(3));
        checks.refused("13: no knots", INDEX, () -> new MonotoneSpline().removeKnot(0));
        checks.same("13: what is refused changes nothing", s.knotCount(), 4);
        checks.same("13: one between", s.removeKnot(1), 3);
        checks.same("13: the next place", s.knotPlace(1), 2.0);
        checks.same("13: its value", s.knotValue(1), 4.0);
        checks.same("13: its fixed slope", s.knotSlope(1), 0.25);
        checks.same("13: the last place", s.knotPlace(2), 3.0);
        checks.same("13: the last value", s.knotValue(2), 5.0);
        checks.same("13: the points stay", s.pointCount(), 4);
        checks.same("13: the other one", s.removeKnot(1), 2);
        checks.same("13: the slope of what is left", s.knotSlope(0), 5.0 / 3.0);
        checks.refused("13: the last of two", ARGUMENT, () -> s.removeKnot(1));
    }

    private static void setKnotValue() {
        MonotoneSpline s = Splines.fitted(0.0, 0.0, 1.0, 1.0, 2.0, 4.0);
        checks.same("14: the value before", s.setKnotValue(1, 2.0), 1.0);
        checks.same("14: the new value", s.knotValue(1), 2.0);
        checks.same("14: as low as the one before", s.setKnotValue(1, 0.0), 2.0);
        checks.same("14: as high as the one behind", s.setKnotValue(1, 4.0), 0.0);
        checks.refused("14: lower than the one before", ARGUMENT, () -> s.setKnotValue(1, -0.000001));
        checks.refused("14: higher than the one behind", ARGUMENT, () -> s.setKnotValue(1, Math.nextUp(4.0)));
        checks.refused("14: the first, higher", ARGUMENT, () -> s.setKnotValue(0, 4.5));
        checks.refused("14: the last, lower", ARGUMENT, () -> s.setKnotValue(2, 3.5));
        for (double wrong : new double[] {ABOVE_MILLION, -ABOVE_MILLION, NAN, ENDLESS, -ENDLESS}) {
            for (int i = 0; i < 3; i++) {
                int k = i;
                checks.refused("14: knot " + k + " to " + wrong, ARGUMENT, () -> s.setKnotValue(k, wrong));
            }
        }
        checks.refused("14: -1", INDEX, () -> s.setKnotValue(-1, 1.0));
        checks.refused("14: the count", INDEX, () -> s.setKnotValue(3, NAN));
        checks.refused("14: no knots", INDEX, () -> new MonotoneSpline().setKnotValue(0, 0.0));
        checks.same("14: what is refused changes nothing", s.knotValue(1), 4.0);
        checks.same("14: the first to the range's end", s.setKnotValue(0, -MILLION), 0.0);
        checks.same("14: the last to the range's end", s.setKnotValue(2, MILLION), 4.0);
        checks.same("14: the first has none before it", s.knotValue(0), -MILLION);
        checks.same("14: the last has none behind it", s.knotValue(2), MILLION);
        s.setKnotValue(1, -0.0000009);
        checks.same("14: a small value is 0", s.knotValue(1), 0.0);
        checks.same("14: a small value is 0 before it is compared", s.setKnotValue(0, 0.0000009), -MILLION);
        checks.same("14: again", s.setKnotValue(1, -0.0000009), 0.0);
        checks.same("14: and kept as 0", s.knotValue(0), 0.0);
    }

    private static void fixSlope() {
        MonotoneSpline s = Splines.fitted(0.0, 0.0, 1.0, 1.0, 2.0, 4.0);
        checks.same("15: below the limit", s.fixSlope(1, 2.0), 2.0);
        checks.same("15: at the limit", s.fixSlope(1, 3.0), 3.0);
        checks.same("15: above the limit", s.fixSlope(1, MILLION), 3.0);
        checks.same("15: the first one's limit", s.fixSlope(0, 3.25), 3.0);
        checks.same("15: the last one's limit", s.fixSlope(2, 9.5), 9.0);
        checks.same("15: 0", s.fixSlope(0, 0.0), 0.0);
        checks.same("15: a small slope", s.fixSlope(0, 0.0000009), 0.0);
        checks.same("15: a small one below 0", s.fixSlope(0, -0.0000009), 0.0);
        checks.same("15: -0.0", s.fixSlope(0, -0.0), 0.0);
        checks.same("15: not small", s.fixSlope(0, 0.000001), 0.000001);
        for (double wrong : new double[] {-0.000001, -1.0, ABOVE_MILLION, NAN, ENDLESS, -ENDLESS}) {
            checks.refused("15: " + wrong, ARGUMENT, () -> s.fixSlope(1, wrong));
        }
        checks.refused("15: -1", INDEX, () -> s.fixSlope(-1, NAN));
        checks.refused("15: the count", INDEX, () -> s.fixSlope(3, 1.0));
        checks.refused("15: no knots", INDEX, () -> new MonotoneSpline().fixSlope(0, 1.0));
        checks.same("15: what is refused changes nothing", s.knotSlope(1), 3.0);
        MonotoneSpline t = Splines.fitted(0.0, 0.0, 1.0, 1.0, 2.0, 4.0);
        checks.refused("15: a wrong slope", ARGUMENT, () -> t.fixSlope(1, NAN));
        checks.same("15: leaves it free", t.isFixed(1), false);
    }

    private static void freeSlope() {
        MonotoneSpline s = Splines.fitted(0.0, 0.0, 1.0, 1.0, 2.0, 4.0);
        checks.same("16: it was free", s.freeSlope(1), false);
        s.fixSlope(1, 0.0);
        checks.same("16: it was fixed", s.freeSlope(1), true);
        checks.same("16: it is free now", s.isFixed(1), false);
        checks.same("16: with its free slope", s.knotSlope(1), 1.5);
        s.fixSlope(0, 0.5);
        checks.same("16: another one", s.freeSlope(1), false);
        checks.same("16: does not free this one", s.isFixed(0), true);
        checks.refused("16: -1", INDEX, () -> s.freeSlope(-1));
        checks.refused("16: the count", INDEX, () -> s.freeSlope(3));
        checks.refused("16: no knots", INDEX, () -> new MonotoneSpline().freeSlope(0));
    }

    private static void value() {
        MonotoneSpline s = Splines.fitted(0.0, 0.0, 1.0, 1.0, 2.0, 4.0);
        checks.same("17: the first place", s.value(0.0), 0.0);
        checks.same("17: in the first piece", s.value(0.5), 0.4375);
        checks.same("17: a knot between", s.value(1.0), 1.0);
        checks.same("17: in the last piece", s.value(1.5), 2.3125);
        checks.same("17: the last place", s.value(2.0), 4.0);
        checks.same("17: a small place is not 0 here", s.value(0.0000005), 0.0000005 * (1.0 + 0.0000005 * (-0.5 + 0.0000005 * 0.5)));
        double[] wrong = {-Double.MIN_VALUE, -0.0000001, Math.nextUp(2.0), -5.0, 5.0, NAN, ENDLESS, -ENDLESS};
        for (double x : wrong) {
            checks.refused("17: at " + x, ARGUMENT, () -> s.value(x));
            checks.refused("18: at " + x, ARGUMENT, () -> s.slope(x));
            checks.refused("19: from " + x, ARGUMENT, () -> s.area(x, 1.0));
            checks.refused("19: to " + x, ARGUMENT, () -> s.area(1.0, x));
        }
        MonotoneSpline empty = Splines.points(0.0, 0.0, 1.0, 1.0);
        for (double x : new double[] {0.0, 0.5, 1.0}) {
            checks.refused("17: no knots", ARGUMENT, () -> empty.value(x));
            checks.refused("18: no knots", ARGUMENT, () -> empty.slope(x));
            checks.refused("19: no knots", ARGUMENT, () -> empty.area(x, x));
            checks.refused("20: no knots", ARGUMENT, () -> empty.reach(x));
        }
        MonotoneSpline t = Splines.fitted(2.8, 1.7, 4.4, 3.4);
        t.fixSlope(0, MILLION);
        t.fixSlope(1, MILLION);
        checks.same("17: the last place is of the last piece", t.value(4.4), 3.4000000000000004);
        MonotoneSpline u = Splines.fitted(2.8, 1.7, 4.4, 3.4, 5.0, 9.0);
        u.fixSlope(0, MILLION);
        u.fixSlope(1, MILLION);
        checks.same("17: a place between is of the piece behind it", u.value(4.4), 3.4);
        checks.same("17: -0.0 is the place 0", s.value(-0.0), 0.0);
    }

    private static void slope() {
        MonotoneSpline s = Splines.fitted(0.0, 0.0, 1.0, 1.0, 2.0, 4.0);
        checks.same("18: the first place", s.slope(0.0), 1.0);
        checks.same("18: in the first piece", s.slope(0.5), 0.875);
        checks.same("18: a knot between", s.slope(1.0), 1.5);
        checks.same("18: in the last piece", s.slope(1.5), 3.375);
        checks.same("18: the last place", s.slope(2.0), 3.0);
        s.fixSlope(1, 0.0);
        checks.same("18: a knot with a fixed slope", s.slope(1.0), 0.0);
        MonotoneSpline t = Splines.fitted(4.1, 2.1, 6.3999999999999995, 5.2);
        t.fixSlope(0, MILLION);
        t.fixSlope(1, MILLION);
        checks.same("18: below 0 by rounding", t.slope((4.1 + 6.3999999999999995) / 2), -8.881784197001252E-16);
    }

    private static double part(double s, double y, double m, double p, double q) {
        return s * (y + s * (m / 2.0 + s * (p / 3.0 + s * (q / 4.0))));
    }

    private static void area() {
        MonotoneSpline s = Splines.fitted(0.0, 0.0, 1.0, 1.0, 2.0, 4.0);
        double first = part(1.0, 0.0, 1.0, -0.5, 0.5);
        double second = part(1.0, 1.0, 1.5, 3.0, -1.5);
        double half = part(0.5, 1.0, 1.5, 3.0, -1.5);
        checks.same("19: all", s.area(0.0, 2.0), first + second);
        checks.same("19: the first piece", s.area(0.0, 1.0), first);
        checks.same("19: in the first piece", s.area(0.0, 0.5), part(0.5, 0.0, 1.0, -0.5, 0.5));
        checks.same("19: from a knot on", s.area(1.0, 1.5), first + half - first);
        checks.same("19: backwards", s.area(1.5, 0.0), 0.0 - (first + half));
        checks.same("19: none", s.area(1.25, 1.25), 0.0);
        checks.same("19: over a knot", s.area(0.5, 1.5), first + half - part(0.5, 0.0, 1.0, -0.5, 0.5));
        checks.same("19: below 0", Splines.fitted(0.0, -2.0, 1.0, -2.0).area(0.0, 1.0), -2.0);
        MonotoneSpline t = Splines.fitted(0.0, 0.1, 0.1, 0.1, 0.3, 0.1, 0.6, 0.1, 0.7, 0.1);
        double sum = 0.1 * 0.1;
        sum += (0.3 - 0.1) * 0.1;
        sum += (0.6 - 0.3) * 0.1;
        checks.same("19: added up in ascending order", t.area(0.0, 0.65), sum + (0.65 - 0.6) * 0.1);
    }

    private static void reach() {
        MonotoneSpline s = Splines.fitted(0.0, 0.0, 1.0, 1.0, 2.0, 4.0);
        checks.same("20: the last value", s.reach(4.0), 2.0);
        checks.same("20: a knot's value", s.reach(1.0), 1.0);
        double half = s.reach(0.4375);
        checks.isTrue("20: about 0.5", half >= 0.5 && half - 0.5 < 1e-15);
        checks.isTrue("20: its value is not less", s.value(half) >= 0.4375);
        double far = s.reach(2.3125);
        checks.isTrue("20: about 1.5", far >= 1.5 && far - 1.5 < 1e-15);
        checks.same("20: the first value", s.reach(0.0), 1.0 / (1L << 60));
        double[] wrong = {-Double.MIN_VALUE, -0.0000001, Math.nextUp(4.0), NAN, ENDLESS, -ENDLESS};
        for (double y : wrong) {
            checks.refused("20: " + y, ARGUMENT, () -> s.reach(y));
        }
        MonotoneSpline t = Splines.fitted(-2.0, 3.0, -1.0, 3.0, 0.0, 5.0, 1.0, 5.0, 2.0, 6.0);
        checks.isTrue("20: before a flat piece", t.reach(5.0) <= 0.0 && t.reach(5.0) > -0.000001);
        checks.same("20: the first flat piece", t.reach(3.0), -2.0);
        checks.isTrue("20: behind a flat piece", t.reach(6.0) <= 2.0 && t.reach(6.0) > 1.999999);
        checks.same("20: all flat", Splines.fitted(1.0, 7.0, 3.0, 7.0, 4.0, 7.0).reach(7.0), 1.0);
        double small = Splines.fitted(0.0, 0.0, 1.0, 1.0).reach(0.0000005);
        checks.isTrue("20: a small value is not 0 here", small >= 0.0000005 && small < 0.0000005 + 1e-18);
    }

    private static void steepest() {
        checks.same("21: the last piece", Splines.fitted(0.0, 0.0, 1.0, 1.0, 2.0, 4.0).steepest(), 1);
        checks.same("21: the first of several", Splines.fitted(0.0, 0.0, 1.0, 1.0, 2.0, 3.0, 3.0, 5.0).steepest(), 1);
        checks.same("21: by its rise, not by its height", Splines.fitted(0.0, 0.0, 4.0, 3.0, 5.0, 4.0).steepest(), 1);
        checks.same("21: all flat", Splines.fitted(0.0, 1.0, 1.0, 1.0, 2.0, 1.0).steepest(), 0);
        checks.same("21: two knots", Splines.fitted(0.0, 1.0, 1.0, 2.0).steepest(), 0);
        checks.same("21: no knots", Splines.points(0.0, 1.0, 1.0, 2.0).steepest(), -1);
        checks.same("21: the first piece", Splines.fitted(0.0, 0.0, 1.0, 5.0, 2.0, 6.0).steepest(), 0);
    }

    private static void flatCount() {
        checks.same("22: none", Splines.fitted(0.0, 0.0, 1.0, 1.0, 2.0, 4.0).flatCount(), 0);
        checks.same("22: two of four", Splines.fitted(0.0, 1.0, 1.0, 1.0, 2.0, 4.0, 3.0, 5.0, 4.0, 5.0).flatCount(), 2);
        checks.same("22: all", Splines.fitted(0.0, 1.0, 1.0, 1.0, 2.0, 1.0).flatCount(), 2);
        checks.same("22: the last knot begins no piece", Splines.fitted(0.0, -1.0, 1.0, 0.0).flatCount(), 0);
        checks.same("22: no knots", Splines.points(0.0, 1.0, 1.0, 1.0).flatCount(), 0);
    }

    private static void setTail() {
        MonotoneSpline s = Splines.fitted(0.0, 0.0, 1.0, 1.0);
        checks.same("23: at first 0", s.setTail(0, 3, 2.0), 0);
        checks.same("23: the kind before", s.setTail(0, 6, -2.0), 3);
        checks.same("23: the other end is another tail", s.setTail(1, 1, 2.0), 0);
        for (int end : new int[] {-1, 2, Integer.MAX_VALUE, Integer.MIN_VALUE}) {
            checks.refused("23: the end " + end, INDEX, () -> s.setTail(end, 1, 1.0));
            checks.refused("23: all wrong, the end " + end, INDEX, () -> s.setTail(end, 7, NAN));
        }
        for (int kind : new int[] {-1, 7, Integer.MAX_VALUE, Integer.MIN_VALUE}) {
            checks.refused("23: the kind " + kind, ARGUMENT, () -> s.setTail(0, kind, 1.0));
        }
        for (double wrong : new double[] {ABOVE_MILLION, -ABOVE_MILLION, NAN, ENDLESS, -ENDLESS}) {
            for (int i = 0; i <= 6; i++) {
                int kind = i;
                checks.refused("23: kind " + kind + " with " + wrong, ARGUMENT, () -> s.setTail(1, kind, wrong));
            }
        }
        for (double none : new double[] {0.0, -0.0, 0.0000009, -0.0000009}) {
            for (int i = 4; i <= 6; i++) {
                int kind = i;
                checks.refused("23: kind " + kind + " with " + none, ARGUMENT, () -> s.setTail(1, kind, none));
            }
        }
        checks.same("23: what is refused changes nothing", s.setTail(1, 4, 0.000001), 1);
        for (int kind = 0; kind <= 3; kind++) {
            checks.same("23: kind " + kind + " with 0", s.setTail(1, kind, 0.0), kind == 0 ? 4 : kind - 1);
        }
        checks.same("23: the range's end", s.setTail(0, 5, -MILLION), 6);
        checks.same("23: the range's other end", s.setTail(0, 0, MILLION), 5);
    }

    private static void limitOf(MonotoneSpline s, int kind, double a, double left, double right) {
        s.setTail(0, kind, a);
        s.setTail(1, kind, a);
        checks.same("24: kind " + kind + " with " + a + " on the left", s.limit(0), left);
        checks.same("24: kind " + kind + " with " + a + " on the right", s.limit(1), right);
    }

    private static void limit() {
        MonotoneSpline s = Splines.fitted(0.0, 0.25, 1.0, 1.0, 2.0, 4.0);
        checks.same("24: at first on the left", s.limit(0), 0.25);
        checks.same("24: at first on the right", s.limit(1), 4.0);
        double half = Math.PI / 2;
        limitOf(s, 1, 3.0, 0.25 + 3.0 * -half, 4.0 + 3.0 * half);
        limitOf(s, 1, -0.3, 0.25 + -0.3 * -half, 4.0 + -0.3 * half);
        limitOf(s, 2, 3.0, -2.75, 7.0);
        limitOf(s, 2, -3.0, 3.25, 1.0);
        limitOf(s, 3, 3.0, -2.75, 1.0);
        limitOf(s, 3, -3.0, 3.25, 7.0);
        limitOf(s, 4, 0.5, -ENDLESS, ENDLESS);
        limitOf(s, 4, -0.5, ENDLESS, -ENDLESS);
        limitOf(s, 5, 0.5, -ENDLESS, ENDLESS);
        limitOf(s, 5, -0.5, ENDLESS, -ENDLESS);
        limitOf(s, 6, 0.5, ENDLESS, ENDLESS);
        limitOf(s, 6, -0.5, -ENDLESS, -ENDLESS);
        limitOf(s, 4, 0.000001, -ENDLESS, ENDLESS);
        limitOf(s, 5, -0.000001, ENDLESS, -ENDLESS);
        limitOf(s, 6, 0.000001, ENDLESS, ENDLESS);
        limitOf(s, 0, 5.0, 0.25, 4.0);
        limitOf(s, 2, 0.0, 0.25, 4.0);
        limitOf(s, 2, 0.0000009, 0.25, 4.0);
        limitOf(s, 2, 0.000001, 0.25 - 0.000001, 4.000001);
        s.setKnotValue(2, 5.0);
        checks.same("24: the last knot's new value", s.limit(1), 5.000001);
        checks.refused("24: -1", INDEX, () -> s.limit(-1));
        checks.refused("24: 2", INDEX, () -> s.limit(2));
        checks.refused("24: no such end and no knots", INDEX, () -> new MonotoneSpline().limit(2));
        checks.refused("24: no knots on the left", STATE, () -> Splines.points(0.0, 0.0, 1.0, 1.0).limit(0));
        checks.refused("24: no knots on the right", STATE, () -> Splines.points(0.0, 0.0, 1.0, 1.0).limit(1));
    }

    private static long digestOf(MonotoneSpline s, int points, int left, int right) {
        long d = 59;
        d = d * 31 + points;
        d = d * 31 + s.knotCount();
        for (int k = 0; k < s.knotCount(); k++) {
            d = d * 31 + Double.doubleToLongBits(s.knotPlace(k));
            d = d * 31 + Double.doubleToLongBits(s.knotValue(k));
            d = d * 31 + Double.doubleToLongBits(s.knotSlope(k));
            d = d * 31 + (s.isFixed(k) ? 1 : 0);
        }
        return (d * 31 + left) * 31 + right;
    }

    private static void digest() {
        MonotoneSpline s = Splines.points(-MILLION, -MILLION, -0.1, -0.3, 0.000001, 0.0, 0.75, 3.0, MILLION, MILLION);
        checks.same("25: points alone", s.digest(), digestOf(s, 5, 0, 0));
        s.fit();
        checks.same("25: after a fit", s.digest(), digestOf(s, 5, 0, 0));
        s.fixSlope(2, 0.7);
        s.removePoint(0);
        s.setTail(0, 3, 0.0);
        s.setTail(1, 6, 1.0);
        checks.same("25: a fixed slope and two tails", s.digest(), digestOf(s, 4, 3, 6));
        long before = s.digest();
        s.setTail(1, 6, 2.0);
        checks.same("25: a factor does not count", s.digest(), before);
        MonotoneSpline t = Splines.fitted(0.0, 0.0, 1.0, 1.0, 2.0, 4.0);
        for (int i = 0; i < 60; i++) {
            t.setKnotValue(2, 1.0 + 1.7 * i * i * i);
            t.setKnotValue(0, -0.3 * i * i);
            checks.same("25: values of all sizes, " + i, t.digest(), digestOf(t, 3, 0, 0));
        }
    }

    public static void main(String[] args) {
        newObject();
        addPoint();
        addPointNearby();
        addSmallNumbers();
        addTooManyPoints();
        removePoint();
        removePointWithWeight();
        pointCount();
        pointPlace();
        fit();
        fitRounds();
        fitAgain();
        knotCount();
        knotPlaceAndValue();
        knotSlope();
        isFixed();
        insertKnot();
        insertWrongKnot();
        insertTooManyKnots();
        insertKnotThatRoundingMoves();
        insertKnotBelow();
        removeKnot();
        setKnotValue();
        fixSlope();
        freeSlope();
        value();
        slope();
        area();
        reach();
        steepest();
        flatCount();
        setTail();
        limit();
        digest();
        checks.end();
    }
}
