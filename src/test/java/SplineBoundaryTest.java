import java.math.BigInteger;

/**
 * The document's sentences on the spline and its tails, and promises 17 to 25: each one that names a
 * boundary has a test of its own.
 */
public final class SplineBoundaryTest {
    private static final Class<IllegalArgumentException> ARGUMENT = IllegalArgumentException.class;
    private static final Class<IllegalStateException> STATE = IllegalStateException.class;
    private static final Class<IndexOutOfBoundsException> INDEX = IndexOutOfBoundsException.class;
    private static final double NAN = Double.NaN;
    private static final double ENDLESS = Double.POSITIVE_INFINITY;
    private static final double MILLION = 1000000.0;
    private static final double ABOVE_MILLION = Math.nextUp(MILLION);
    private static final double BELOW_SMALL = Math.nextDown(0.000001);
    private static final double[] SMALL = {BELOW_SMALL, -BELOW_SMALL, Double.MIN_VALUE, -Double.MIN_VALUE, 0.0, -0.0};
    private static final double[] OUTSIDE = {ABOVE_MILLION, -ABOVE_MILLION, Double.MAX_VALUE, -Double.MAX_VALUE,
        ENDLESS, -ENDLESS, NAN};

    private static final Checks checks = new Checks("SplineBoundaryTest");

    // ---- promises 17 to 19

    private static void fromTheFirstPlaceToTheLast() {
        MonotoneSpline s = Splines.fitted(1.0, 0.0, 2.0, 1.0, 3.0, 4.0);
        checks.same("17: the first place", s.value(1.0), 0.0);
        checks.same("17: the last place", s.value(3.0), 4.0);
        checks.same("18: the first place", s.slope(1.0), 1.0);
        checks.same("18: the last place", s.slope(3.0), 3.0);
        checks.same("19: nothing at the first place", s.area(1.0, 1.0), 0.0);
        checks.same("19: nothing at the last place", s.area(3.0, 3.0), 0.0);
        checks.same("19: all", s.area(1.0, 3.0), 2.8333333333333335);
    }

    private static void placesBeyondTheEnds() {
        MonotoneSpline s = Splines.fitted(1.0, 0.0, 2.0, 1.0, 3.0, 4.0);
        double[] wrong = {Math.nextDown(1.0), Math.nextUp(3.0), 0.0, 4.0, -MILLION, MILLION, Double.MAX_VALUE, ENDLESS,
            -ENDLESS, NAN};
        for (double x : wrong) {
            checks.refused("17: at " + x, ARGUMENT, () -> s.value(x));
            checks.refused("18: at " + x, ARGUMENT, () -> s.slope(x));
            checks.refused("19: from " + x, ARGUMENT, () -> s.area(x, 2.0));
            checks.refused("19: to " + x, ARGUMENT, () -> s.area(2.0, x));
            checks.refused("19: from and to " + x, ARGUMENT, () -> s.area(x, x));
        }
    }

    private static void noSplineWithoutKnots() {
        MonotoneSpline none = new MonotoneSpline();
        MonotoneSpline unfitted = Splines.points(0.0, 0.0, 1.0, 1.0);
        for (double x : new double[] {0.0, 0.5, 1.0, NAN, ENDLESS}) {
            for (MonotoneSpline s : new MonotoneSpline[] {none, unfitted}) {
                checks.refused("17: without knots, at " + x, ARGUMENT, () -> s.value(x));
                checks.refused("18: without knots, at " + x, ARGUMENT, () -> s.slope(x));
                checks.refused("19: without knots, at " + x, ARGUMENT, () -> s.area(x, x));
                checks.refused("20: without knots, for " + x, ARGUMENT, () -> s.reach(x));
            }
        }
    }

    private static void smallPlaceThatIsNotStoredIsNotTakenAs0() {
        MonotoneSpline s = Splines.fitted(0.0, 0.0, 1.0, 1.0);
        checks.same("17: the line at a small place", s.value(BELOW_SMALL), BELOW_SMALL);
        checks.same("17: at the smallest place", s.value(Double.MIN_VALUE), Double.MIN_VALUE);
        checks.same("19: to a small place", s.area(0.0, BELOW_SMALL), BELOW_SMALL * (BELOW_SMALL * 0.5));
        checks.refused("17: a small place before the first one", ARGUMENT, () -> s.value(-Double.MIN_VALUE));
        checks.refused("18: a small place before the first one", ARGUMENT, () -> s.slope(-BELOW_SMALL));
        checks.refused("19: a small place before the first one", ARGUMENT, () -> s.area(-BELOW_SMALL, 1.0));
        MonotoneSpline t = Splines.fitted(-1.0, 0.0, 0.0, 1.0);
        checks.refused("17: a small place behind the last one", ARGUMENT, () -> t.value(BELOW_SMALL));
        MonotoneSpline bent = Splines.fitted(0.0, 0.0, 1.0, 1.0);
        bent.fixSlope(0, 0.0);
        double at = BELOW_SMALL;
        checks.same("18: at a small place", bent.slope(at), 0.0 + at * (2.0 * 2.0 + at * (3.0 * -1.0)));
    }

    private static void minus0IsThePlace0() {
        MonotoneSpline s = Splines.fitted(0.0, 2.0, 1.0, 3.0);
        checks.same("17: the value", s.value(-0.0), 2.0);
        checks.same("18: the slope", s.slope(-0.0), 1.0);
        checks.same("19: the area", s.area(-0.0, 0.0), 0.0);
    }

    /** At a knot only rounding tells the piece before it from the one behind it. */
    private static void knotBetweenIsOnThePieceBehindIt() {
        MonotoneSpline s = Splines.fitted(2.8, 1.7, 4.4, 3.4, 5.0, 9.0);
        s.fixSlope(0, MILLION);
        s.fixSlope(1, MILLION);
        checks.same("17: its own value", s.value(4.4), 3.4);
        checks.same("18: its own slope", s.slope(4.4), s.knotSlope(1));
        double below = Math.nextDown(4.4);
        double width = 4.4 - 2.8;
        double d = (3.4 - 1.7) / width;
        double m = 3.0 * d;
        double p = (3.0 * d - 2.0 * m - m) / width;
        double q = (m + m - 2.0 * d) / (width * width);
        double at = below - 2.8;
        checks.same("17: just before it", s.value(below), 1.7 + at * (m + at * (p + at * q)));
    }

    private static void lastPlaceIsOnTheLastPiece() {
        MonotoneSpline s = Splines.fitted(2.8, 1.7, 4.4, 3.4);
        s.fixSlope(0, MILLION);
        s.fixSlope(1, MILLION);
        checks.same("17: computed, not taken from the knot", s.value(4.4), 3.4000000000000004);
    }

    private static double part(double s, double y, double m, double p, double q) {
        return s * (y + s * (m / 2.0 + s * (p / 3.0 + s * (q / 4.0))));
    }

    private static void areaUpToAKnot() {
        MonotoneSpline s = Splines.fitted(0.0, 0.0, 1.0, 1.0, 2.0, 4.0);
        double first = part(1.0, 0.0, 1.0, -0.5, 0.5);
        checks.same("19: to the knot between", s.area(0.0, 1.0), first);
        checks.same("19: from the knot between", s.area(1.0, 2.0), first + part(1.0, 1.0, 1.5, 3.0, -1.5) - first);
        double below = Math.nextDown(1.0);
        checks.same("19: to just before it", s.area(0.0, below), part(below, 0.0, 1.0, -0.5, 0.5));
    }

    private static void areaBackwards() {
        MonotoneSpline s = Splines.fitted(0.0, 1.0, 2.0, 1.0);
        checks.same("19: from the end", s.area(2.0, 0.0), -2.0);
        checks.same("19: nothing", s.area(1.0, 1.0), 0.0);
    }

    private static void areaBelow0StartsWith0() {
        MonotoneSpline s = Splines.fitted(0.0, -1.0, 2.0, -1.0);
        checks.same("19: 0, not -0", s.area(0.0, 0.0), 0.0);
        checks.same("19: below 0", s.area(0.0, 2.0), -2.0);
        checks.same("19: up to 0 and up to -0, where the parts' zeros have two signs", s.area(-0.0, 0.0), 0.0);
    }

    private static void areaOfSixtyKnots() {
        MonotoneSpline s = Splines.sixtyKnots();
        double sum = 0.0;
        for (int k = 0; k < 59; k++) {
            double h = s.knotPlace(k + 1) - s.knotPlace(k);
            double d = (s.knotValue(k + 1) - s.knotValue(k)) / h;
            double m = s.knotSlope(k);
            double n = s.knotSlope(k + 1);
            sum = sum + part(h, s.knotValue(k), m, (3.0 * d - 2.0 * m - n) / h, (m + n - 2.0 * d) / (h * h));
        }
        checks.same("19: all pieces", s.area(0.0, 39.0), sum);
    }

    // ---- promise 20

    private static void reachFromTheFirstValueToTheLast() {
        MonotoneSpline s = Splines.fitted(0.0, 1.0, 1.0, 2.0, 2.0, 5.0);
        checks.same("20: the last value", s.reach(5.0), 2.0);
        checks.same("20: the first value", s.reach(1.0), 1.0 / (1L << 60));
        double[] wrong = {Math.nextDown(1.0), Math.nextUp(5.0), 0.0, -MILLION, MILLION, ENDLESS, -ENDLESS, NAN};
        for (double y : wrong) {
            checks.refused("20: " + y, ARGUMENT, () -> s.reach(y));
        }
    }

    private static void smallValueToReachIsNotTakenAs0() {
        MonotoneSpline s = Splines.fitted(0.0, 0.0, 1.0, 1.0);
        checks.refused("20: below the first value", ARGUMENT, () -> s.reach(-Double.MIN_VALUE));
        MonotoneSpline t = Splines.fitted(0.0, -1.0, 1.0, 0.0);
        checks.refused("20: above the last value", ARGUMENT, () -> t.reach(BELOW_SMALL));
        double found = s.reach(BELOW_SMALL);
        checks.isTrue("20: not the place of 0", found >= BELOW_SMALL && found - BELOW_SMALL <= 1.0 / (1L << 60));
    }

    private static void reachHalvesSixtyTimes() {
        MonotoneSpline s = Splines.fitted(0.0, 0.0, 1.0, 1.0);
        checks.same("20: high comes down to 0 sixty times", s.reach(0.0), 1.0 / (1L << 60));
        MonotoneSpline wide = Splines.fitted(0.0, 0.0, MILLION, 1.0);
        checks.same("20: in a wide piece too", wide.reach(0.0), MILLION / (1L << 60));
        MonotoneSpline t = Splines.fitted(0.0, 0.0, 1.0, 1.0);
        checks.same("20: three halvings reach it", t.reach(0.625), 0.625);
    }

    private static void reachInTheFirstPieceWhoseEndIsNotLess() {
        MonotoneSpline s = Splines.fitted(0.0, 0.0, 1.0, 1.0, 2.0, 2.0, 3.0, 3.0);
        checks.same("20: an end's value is in the piece before", s.reach(1.0), 1.0);
        double above = s.reach(Math.nextUp(1.0));
        checks.isTrue("20: the next value is in the piece behind", above > 1.0 && above < 1.0 + 1e-15);
        MonotoneSpline flat = Splines.fitted(0.0, 0.0, 1.0, 1.0, 2.0, 1.0, 3.0, 2.0);
        double level = flat.reach(1.0);
        checks.isTrue("20: not in the flat piece behind", level <= 1.0 && level > 0.9999999);
    }

    private static void reachOnAFlatSpline() {
        MonotoneSpline s = Splines.fitted(2.0, 7.0, 3.0, 7.0, 4.0, 7.0);
        checks.same("20: the beginning of the first piece", s.reach(7.0), 2.0);
        checks.refused("20: just below", ARGUMENT, () -> s.reach(Math.nextDown(7.0)));
        checks.refused("20: just above", ARGUMENT, () -> s.reach(Math.nextUp(7.0)));
    }

    private static void reachWhereThePieceStaysBelow() {
        MonotoneSpline s = Splines.vanishingRise();
        double tiny = s.knotValue(26);
        checks.same("20: the end of the piece", s.reach(tiny), s.knotPlace(26));
    }

    // ---- promises 21 and 22

    private static void steepestOfNone() {
        checks.same("21: a new object", new MonotoneSpline().steepest(), -1);
        checks.same("21: without a fit", Splines.fortyPoints().steepest(), -1);
    }

    private static void steepestIsTheFirstOfSeveral() {
        checks.same("21: the first of three", Splines.fitted(0.0, 0.0, 1.0, 1.0, 2.0, 2.0, 3.0, 3.0).steepest(), 0);
        checks.same("21: the second of three", Splines.fitted(0.0, 0.0, 1.0, 0.5, 2.0, 1.5, 3.0, 2.5).steepest(), 1);
        checks.same("21: all flat", Splines.fitted(0.0, 3.0, 1.0, 3.0, 2.0, 3.0).steepest(), 0);
    }

    private static void steepestAtTheEnds() {
        checks.same("21: the only piece", Splines.fitted(0.0, 0.0, 1.0, 1.0).steepest(), 0);
        checks.same("21: the last piece", Splines.fitted(0.0, 0.0, 1.0, 1.0, 2.0, 3.0).steepest(), 1);
        MonotoneSpline s = Splines.sixtyKnots();
        s.setKnotValue(59, 50.0);
        checks.same("21: the last of sixty knots begins none", s.steepest(), 58);
        s.setKnotValue(0, -50.0);
        checks.same("21: the first of sixty", s.steepest(), 0);
    }

    private static void flatCountOfNoneAndOfAll() {
        checks.same("22: a new object", new MonotoneSpline().flatCount(), 0);
        checks.same("22: without a fit", Splines.points(0.0, 1.0, 1.0, 1.0).flatCount(), 0);
        checks.same("22: the only piece", Splines.fitted(0.0, 1.0, 1.0, 1.0).flatCount(), 1);
        checks.same("22: none", Splines.sixtyKnots().flatCount(), 0);
        MonotoneSpline down = new MonotoneSpline();
        for (int i = 0; i < 40; i++) {
            down.addPoint(i, -i, 1.0);
        }
        down.fit();
        checks.same("22: all of forty knots", down.flatCount(), 39);
    }

    private static void flatCountAsksForD() {
        MonotoneSpline s = Splines.vanishingRise();
        checks.isTrue("22: the 27th value is not 0", s.knotValue(26) > 0.0);
        checks.same("22: but the d before it is", s.flatCount(), 26);
        MonotoneSpline t = Splines.fitted(0.0, 1.0, 1.0, Math.nextUp(1.0));
        checks.same("22: the least rise is not flat", t.flatCount(), 0);
    }

    // ---- promises 23 and 24

    private static void endIs0Or1() {
        MonotoneSpline s = Splines.fitted(0.0, 0.0, 1.0, 1.0);
        MonotoneSpline none = new MonotoneSpline();
        for (int end : new int[] {-1, 2, Integer.MAX_VALUE, Integer.MIN_VALUE}) {
            checks.refused("23: " + end, INDEX, () -> s.setTail(end, 0, 0.0));
            checks.refused("23: " + end + " and a wrong kind", INDEX, () -> s.setTail(end, 7, 0.0));
            checks.refused("23: " + end + " and a wrong factor", INDEX, () -> s.setTail(end, 1, NAN));
            checks.refused("23: " + end + " and no factor", INDEX, () -> s.setTail(end, 4, 0.0));
            checks.refused("24: " + end, INDEX, () -> s.limit(end));
            checks.refused("24: " + end + " and no knots", INDEX, () -> none.limit(end));
        }
    }

    private static void kindFrom0To6() {
        for (int end = 0; end < 2; end++) {
            int at = end;
            MonotoneSpline s = new MonotoneSpline();
            int before = 0;
            for (int kind = 0; kind <= 6; kind++) {
                checks.same("23: the kind " + kind, s.setTail(end, kind, 1.0), before);
                before = kind;
            }
            for (int kind : new int[] {-1, 7, 8, Integer.MAX_VALUE, Integer.MIN_VALUE}) {
                checks.refused("23: the kind " + kind, ARGUMENT, () -> s.setTail(at, kind, 1.0));
            }
            checks.same("23: the kind stays", s.setTail(end, 0, 1.0), 6);
            checks.same("23: the other end is as it was", s.setTail(1 - end, 0, 1.0), 0);
        }
    }

    private static void factorFromMinusAMillionToAMillion() {
        MonotoneSpline s = Splines.fitted(0.0, 1.0, 1.0, 2.0);
        s.setTail(1, 2, MILLION);
        checks.same("23: the greatest factor", s.limit(1), 1000002.0);
        s.setTail(1, 2, -MILLION);
        checks.same("23: the least factor", s.limit(1), -999998.0);
        for (int i = 0; i <= 6; i++) {
            int kind = i;
            for (double a : OUTSIDE) {
                checks.refused("23: the kind " + kind + " with " + a, ARGUMENT, () -> s.setTail(1, kind, a));
            }
        }
        checks.same("23: the factor stays", s.limit(1), -999998.0);
    }

    private static void factor0OnlyForTheKindsBelow4() {
        MonotoneSpline s = Splines.fitted(0.0, 1.0, 1.0, 2.0);
        for (int i = 0; i < 4; i++) {
            int kind = i;
            for (double a : SMALL) {
                s.setTail(0, kind, a);
                s.setTail(1, kind, a);
                checks.same("24: left, kind " + kind + " with " + a, s.limit(0), 1.0);
                checks.same("24: right, kind " + kind + " with " + a, s.limit(1), 2.0);
            }
        }
        for (int i = 4; i <= 6; i++) {
            int kind = i;
            for (double a : SMALL) {
                checks.refused("23: left, kind " + kind + " with " + a, ARGUMENT, () -> s.setTail(0, kind, a));
                checks.refused("23: right, kind " + kind + " with " + a, ARGUMENT, () -> s.setTail(1, kind, a));
            }
        }
        checks.same("23: the kind stays", s.setTail(0, 0, 0.0), 3);
    }

    private static void factorOfAMillionthIsNot0() {
        MonotoneSpline s = Splines.fitted(0.0, 0.0, 1.0, 1.0);
        s.setTail(0, 2, 0.000001);
        checks.same("24: it counts", s.limit(0), -0.000001);
        for (int kind = 4; kind <= 6; kind++) {
            for (double sign : new double[] {1.0, -1.0}) {
                s.setTail(0, kind, sign * 0.000001);
                s.setTail(1, kind, sign * 0.000001);
                checks.same("24: left, kind " + kind, s.limit(0), kind == 6 ? sign * ENDLESS : -sign * ENDLESS);
                checks.same("24: right, kind " + kind, s.limit(1), sign * ENDLESS);
            }
        }
    }

    private static void limits(int kind, double a, double left, double right) {
        MonotoneSpline s = Splines.fitted(0.0, -1.0, 1.0, 1.0, 2.0, 5.0);
        s.setTail(0, kind, a);
        checks.same("24: the other end has none, kind " + kind, s.limit(1), 5.0);
        s.setTail(1, kind, a);
        checks.same("24: left, kind " + kind + " with " + a, s.limit(0), left);
        checks.same("24: right, kind " + kind + " with " + a, s.limit(1), right);
    }

    private static void limitOfEachKind() {
        double half = 1.5707963267948966;
        checks.same("24: the double nearest to half of pi", half, Math.PI / 2.0);
        limits(0, 2.0, -1.0, 5.0);
        limits(0, -2.0, -1.0, 5.0);
        limits(1, 2.0, -1.0 - 2.0 * half, 5.0 + 2.0 * half);
        limits(1, -2.0, -1.0 + 2.0 * half, 5.0 - 2.0 * half);
        limits(2, 2.0, -3.0, 7.0);
        limits(2, -2.0, 1.0, 3.0);
        limits(3, 2.0, -3.0, 3.0);
        limits(3, -2.0, 1.0, 7.0);
        limits(4, 2.0, -ENDLESS, ENDLESS);
        limits(4, -2.0, ENDLESS, -ENDLESS);
        limits(5, 2.0, -ENDLESS, ENDLESS);
        limits(5, -2.0, ENDLESS, -ENDLESS);
        limits(6, 2.0, ENDLESS, ENDLESS);
        limits(6, -2.0, -ENDLESS, -ENDLESS);
    }

    private static void limitWithoutKnots() {
        MonotoneSpline s = Splines.points(0.0, 0.0, 1.0, 1.0);
        for (int kind = 0; kind <= 6; kind++) {
            s.setTail(0, kind, 1.0);
            s.setTail(1, kind, 1.0);
            checks.refused("24: left, kind " + kind, STATE, () -> s.limit(0));
            checks.refused("24: right, kind " + kind, STATE, () -> s.limit(1));
        }
        s.fit();
        checks.same("24: the tail from before the fit", s.limit(1), ENDLESS);
    }

    // ---- promise 25

    private static BigInteger with(BigInteger d, long number) {
        return d.multiply(BigInteger.valueOf(31)).add(BigInteger.valueOf(number));
    }

    /** Without an end to the integers, of which the last 64 bits are taken when all is done. */
    private static long digestOf(MonotoneSpline s, int left, int right) {
        BigInteger d = with(with(BigInteger.valueOf(59), s.pointCount()), s.knotCount());
        for (int k = 0; k < s.knotCount(); k++) {
            d = with(d, Double.doubleToLongBits(s.knotPlace(k)));
            d = with(d, Double.doubleToLongBits(s.knotValue(k)));
            d = with(d, Double.doubleToLongBits(s.knotSlope(k)));
            d = with(d, s.isFixed(k) ? 1 : 0);
        }
        return with(with(d, left), right).longValue();
    }

    private static void digestOfANewObject() {
        checks.same("25: 59 and four zeros", new MonotoneSpline().digest(), 54487739L);
    }

    private static void digestCountsPointsWithoutAFit() {
        checks.same("25: forty points", Splines.fortyPoints().digest(), 54487739L + 40L * 31 * 31 * 31);
    }

    private static void digestWrapsAround() {
        MonotoneSpline s = Splines.fitted(0.0, 0.0, 1.0, 1.0);
        checks.same("25: two knots", s.digest(), digestOf(s, 0, 0));
        checks.same("25: sixty knots", Splines.sixtyKnots().digest(), digestOf(Splines.sixtyKnots(), 0, 0));
        MonotoneSpline far = Splines.fitted(-MILLION, -MILLION, MILLION, MILLION);
        checks.same("25: signs", far.digest(), digestOf(far, 0, 0));
    }

    private static void digestOfTheGreatestSlope() {
        MonotoneSpline s = Splines.fitted(0.0, -MILLION, 2.0, -MILLION, 3.0, MILLION);
        s.insertKnot(2.0001);
        s.setKnotValue(2, MILLION);
        s.fixSlope(3, 0.0);
        s.fixSlope(2, MILLION);
        checks.isTrue("25: a great rise", s.steepest() == 1);
        checks.same("25: between flat pieces", s.digest(), digestOf(s, 0, 0));
        MonotoneSpline t = Splines.fitted(0.0, -MILLION, 1.0, MILLION);
        t.insertKnot(0.0001);
        t.setKnotValue(1, MILLION);
        checks.isTrue("25: a slope of about twenty thousand millions", t.knotSlope(0) > 1.99e10);
        checks.same("25: it counts whole", t.digest(), digestOf(t, 0, 0));
    }

    private static void digestOfNumbersBelowTheNormalOnes() {
        MonotoneSpline s = Splines.vanishingRise();
        checks.isTrue("25: a value with few bits", s.knotValue(26) < Double.MIN_NORMAL);
        checks.same("25: it counts whole", s.digest(), digestOf(s, 0, 0));
    }

    /** What a fit computes is not taken as 0, however small it is. */
    private static void digestOfAValueJustBelow0() {
        MonotoneSpline s = Splines.fitted(0.0, 0.3, 1.0, -0.1, 2.0, -0.2, 3.0, 1.0);
        checks.isTrue("25: a value just below 0", s.knotValue(0) < 0.0 && s.knotValue(0) > -1e-16);
        checks.same("25: its sign counts", s.digest(), digestOf(s, 0, 0));
    }

    private static void digestTakesMinus0As0() {
        MonotoneSpline minus = Splines.fitted(-0.0, -0.0, 1.0, 1.0);
        minus.fixSlope(0, -0.0);
        MonotoneSpline plus = Splines.fitted(0.0, 0.0, 1.0, 1.0);
        plus.fixSlope(0, 0.0);
        checks.same("25: the same", minus.digest(), plus.digest());
    }

    private static void digestTellsFixedSlopesAndTails() {
        MonotoneSpline s = Splines.fitted(0.0, 0.0, 1.0, 1.0);
        long free = s.digest();
        s.fixSlope(1, 1.0);
        checks.same("25: the same slope, fixed", s.digest(), free + 31 * 31);
        s.setTail(1, 6, 1.0);
        checks.same("25: the right tail", s.digest(), free + 31 * 31 + 6);
        s.setTail(0, 6, 1.0);
        checks.same("25: the left tail", s.digest(), free + 31 * 31 + 6 * 31 + 6);
    }

    public static void main(String[] args) {
        fromTheFirstPlaceToTheLast();
        placesBeyondTheEnds();
        noSplineWithoutKnots();
        smallPlaceThatIsNotStoredIsNotTakenAs0();
        minus0IsThePlace0();
        knotBetweenIsOnThePieceBehindIt();
        lastPlaceIsOnTheLastPiece();
        areaUpToAKnot();
        areaBackwards();
        areaBelow0StartsWith0();
        areaOfSixtyKnots();
        reachFromTheFirstValueToTheLast();
        smallValueToReachIsNotTakenAs0();
        reachHalvesSixtyTimes();
        reachInTheFirstPieceWhoseEndIsNotLess();
        reachOnAFlatSpline();
        reachWhereThePieceStaysBelow();
        steepestOfNone();
        steepestIsTheFirstOfSeveral();
        steepestAtTheEnds();
        flatCountOfNoneAndOfAll();
        flatCountAsksForD();
        endIs0Or1();
        kindFrom0To6();
        factorFromMinusAMillionToAMillion();
        factor0OnlyForTheKindsBelow4();
        factorOfAMillionthIsNot0();
        limitOfEachKind();
        limitWithoutKnots();
        digestOfANewObject();
        digestCountsPointsWithoutAFit();
        digestWrapsAround();
        digestOfTheGreatestSlope();
        digestOfNumbersBelowTheNormalOnes();
        digestOfAValueJustBelow0();
        digestTakesMinus0As0();
        digestTellsFixedSlopesAndTails();
        checks.end();
    }
}
