/**
 * The document's sentences on knots and slopes, and promises 7 to 16: each one that names a boundary
 * has a test of its own.
 */
public final class KnotBoundaryTest {
    private static final Class<IllegalArgumentException> ARGUMENT = IllegalArgumentException.class;
    private static final Class<IllegalStateException> STATE = IllegalStateException.class;
    private static final Class<IndexOutOfBoundsException> INDEX = IndexOutOfBoundsException.class;
    private static final double NAN = Double.NaN;
    private static final double ENDLESS = Double.POSITIVE_INFINITY;
    private static final double MILLION = 1000000.0;
    private static final double ABOVE_MILLION = Math.nextUp(MILLION);
    private static final double BELOW_SMALL = Math.nextDown(0.000001);
    private static final double[] SMALL = {BELOW_SMALL, -BELOW_SMALL, Double.MIN_VALUE, -Double.MIN_VALUE, 0.0, -0.0};
    private static final double[] OUTSIDE = {ABOVE_MILLION, -ABOVE_MILLION, Double.MAX_VALUE, -Double.MAX_VALUE,
        ENDLESS, -ENDLESS, NAN};

    private static final Checks checks = new Checks("KnotBoundaryTest");

    // ---- slopes

    private static void freeSlopeOfTheFirstAndTheLastKnot() {
        MonotoneSpline s = Splines.fitted(0.0, 0.0, 2.0, 1.0, 3.0, 5.0);
        checks.same("slopes: d_0 for the first", s.knotSlope(0), 0.5);
        checks.same("slopes: the last d for the last", s.knotSlope(2), 4.0);
        MonotoneSpline two = Splines.fitted(0.0, 0.0, 4.0, 2.0);
        checks.same("slopes: the first of two", two.knotSlope(0), 0.5);
        checks.same("slopes: the last of two", two.knotSlope(1), 0.5);
    }

    private static void freeSlopeIs0BesideAFlatPiece() {
        MonotoneSpline s = Splines.fitted(0.0, 1.0, 1.0, 1.0, 2.0, 5.0, 3.0, 5.0);
        checks.same("slopes: the first of a flat piece", s.knotSlope(0), 0.0);
        checks.same("slopes: d before is 0", s.knotSlope(1), 0.0);
        checks.same("slopes: d behind is 0", s.knotSlope(2), 0.0);
        checks.same("slopes: the last of a flat piece", s.knotSlope(3), 0.0);
        MonotoneSpline flat = Splines.fitted(0.0, 1.0, 1.0, 1.0, 2.0, 1.0);
        checks.same("slopes: both are 0", flat.knotSlope(1), 0.0);
    }

    private static void freeSlopeIs0WhereTheQuotientVanishes() {
        MonotoneSpline s = Splines.vanishingRise();
        checks.isTrue("slopes: the values differ", s.knotValue(26) > s.knotValue(25));
        checks.same("slopes: d is 0 all the same", s.knotSlope(26), 0.0);
    }

    private static void slopeIsItsLimitIfItIsGreater() {
        MonotoneSpline s = Splines.fitted(0.0, 0.0, 1.0, 1.0, 2.0, 5.0);
        checks.same("slopes: at the limit", s.fixSlope(1, 3.0), 3.0);
        checks.same("slopes: below the limit", s.fixSlope(1, Math.nextDown(3.0)), Math.nextDown(3.0));
        checks.same("slopes: above the limit", s.fixSlope(1, Math.nextUp(3.0)), 3.0);
        s.setKnotValue(2, 1.5);
        checks.same("slopes: of the d behind, if it is smaller", s.knotSlope(1), 1.5);
        s.setKnotValue(0, 0.75);
        checks.same("slopes: of the d before, if it is smaller", s.knotSlope(1), 0.75);
    }

    private static void limitOfTheFirstAndTheLastKnotIsOfTheOnlyPiece() {
        MonotoneSpline s = Splines.fitted(0.0, 0.0, 1.0, 1.0, 2.0, 1.0, 3.0, 5.0);
        checks.same("slopes: the first", s.fixSlope(0, MILLION), 3.0);
        checks.same("slopes: the last", s.fixSlope(3, MILLION), 12.0);
        MonotoneSpline two = Splines.fitted(0.0, 0.0, 4.0, 2.0);
        checks.same("slopes: the first of two", two.fixSlope(0, 1.5000001), 1.5);
        checks.same("slopes: the last of two", two.fixSlope(1, 1.5), 1.5);
    }

    /** Beside a wide piece with a small d, a narrow one with a great d leads the free slope up to the limit. */
    private static void freeSlopeStaysBelowItsLimit() {
        MonotoneSpline s = Splines.fitted(0.0, 0.0, 1000.0, 0.001, 1000.5, 1000.0);
        double before = 0.001 / 1000.0;
        double behind = (1000.0 - 0.001) / 0.5;
        double v = 2.0 * 0.5 + 1000.0;
        double w = 0.5 + 2.0 * 1000.0;
        double free = (v + w) / (v / before + w / behind);
        checks.isTrue("slopes: near the limit", free < 3.0 * before && free > 2.99 * before);
        checks.same("slopes: it is the slope", s.knotSlope(1), free);
        checks.same("slopes: the limit", s.fixSlope(1, MILLION), 3.0 * before);
    }

    // ---- promises 7 to 11

    private static void noKnotsWithoutAFit() {
        MonotoneSpline s = Splines.points(0.0, 0.0, 1.0, 1.0);
        checks.same("7: none", s.knotCount(), 0);
        checks.refused("8: none", INDEX, () -> s.knotPlace(0));
        checks.refused("9: none", INDEX, () -> s.knotValue(0));
        checks.refused("10: none", INDEX, () -> s.knotSlope(0));
        checks.refused("11: none", INDEX, () -> s.isFixed(0));
        checks.refused("13: none", INDEX, () -> s.removeKnot(0));
        checks.refused("14: none", INDEX, () -> s.setKnotValue(0, 0.0));
        checks.refused("15: none", INDEX, () -> s.fixSlope(0, 0.0));
        checks.refused("16: none", INDEX, () -> s.freeSlope(0));
    }

    private static void noSuchKnot(MonotoneSpline s) {
        int count = s.knotCount();
        String before = Splines.stateOf(s);
        for (int k : new int[] {-1, count, count + 1, 60, 61, Integer.MAX_VALUE, Integer.MIN_VALUE}) {
            String of = k + " of " + count;
            checks.refused("8: " + of, INDEX, () -> s.knotPlace(k));
            checks.refused("9: " + of, INDEX, () -> s.knotValue(k));
            checks.refused("10: " + of, INDEX, () -> s.knotSlope(k));
            checks.refused("11: " + of, INDEX, () -> s.isFixed(k));
            checks.refused("13: " + of, INDEX, () -> s.removeKnot(k));
            checks.refused("14: " + of, INDEX, () -> s.setKnotValue(k, 0.0));
            checks.refused("14: " + of + " and a wrong value", INDEX, () -> s.setKnotValue(k, NAN));
            checks.refused("15: " + of, INDEX, () -> s.fixSlope(k, 0.0));
            checks.refused("15: " + of + " and a wrong slope", INDEX, () -> s.fixSlope(k, -1.0));
            checks.refused("16: " + of, INDEX, () -> s.freeSlope(k));
        }
        checks.same("8 to 16: nothing is changed with " + count, Splines.stateOf(s), before);
    }

    private static void noSuchKnotOfFewOrMany() {
        noSuchKnot(new MonotoneSpline());
        noSuchKnot(Splines.fitted(0.0, 0.0, 1.0, 1.0));
        noSuchKnot(Splines.sixtyKnots());
    }

    private static void firstAndLastOfSixtyKnots() {
        MonotoneSpline s = Splines.sixtyKnots();
        checks.same("7: sixty", s.knotCount(), 60);
        checks.same("8: the first", s.knotPlace(0), 0.0);
        checks.same("8: the last", s.knotPlace(59), 39.0);
        checks.same("9: the first", s.knotValue(0), 0.0);
        checks.same("9: the last", s.knotValue(59), 39.0);
        checks.same("10: the first", s.knotSlope(0), 1.0);
        checks.same("10: the last", s.knotSlope(59), 1.0);
        checks.same("11: the last", s.isFixed(59), false);
        checks.same("15: the last", s.fixSlope(59, 0.5), 0.5);
        checks.same("11: the last, fixed", s.isFixed(59), true);
        checks.same("16: the last", s.freeSlope(59), true);
        checks.same("14: the last", s.setKnotValue(59, 39.5), 39.0);
    }

    private static void limitedSlopeIsFixedAllTheSame() {
        MonotoneSpline s = Splines.fitted(0.0, 0.0, 1.0, 0.0, 2.0, 5.0);
        checks.same("15: limited to 0", s.fixSlope(1, 2.0), 0.0);
        checks.same("11: it is fixed", s.isFixed(1), true);
        s.setKnotValue(1, 2.0);
        checks.same("10: what was fixed", s.knotSlope(1), 2.0);
    }

    // ---- promise 12

    private static void insertOnlyBetweenTheFirstAndTheLastKnot() {
        MonotoneSpline s = Splines.fitted(1.0, 0.0, 2.0, 1.0);
        double[] wrong = {1.0, 2.0, Math.nextDown(1.0), Math.nextUp(2.0), 0.0, 3.0, -MILLION, MILLION, ENDLESS, -ENDLESS,
            NAN};
        for (double x : wrong) {
            checks.refused("12: at " + x, ARGUMENT, () -> s.insertKnot(x));
        }
        checks.same("12: none of them", s.knotCount(), 2);
        checks.same("12: between", s.insertKnot(1.5), 1);
    }

    private static void insertWithoutKnots() {
        MonotoneSpline none = new MonotoneSpline();
        MonotoneSpline unfitted = Splines.points(-1.0, 0.0, 1.0, 1.0);
        for (double x : new double[] {0.0, -1.0, 0.5, NAN}) {
            checks.refused("12: a new object, at " + x, ARGUMENT, () -> none.insertKnot(x));
            checks.refused("12: without a fit, at " + x, ARGUMENT, () -> unfitted.insertKnot(x));
        }
    }

    private static void insertBehindAKnot() {
        for (double near : new double[] {0.0, 0.000001, 0.00005, Math.nextDown(0.0001)}) {
            MonotoneSpline s = Splines.fitted(-1.0, 0.0, 0.0, 1.0, 1.0, 4.0);
            checks.refused("12: " + near + " behind", ARGUMENT, () -> s.insertKnot(near));
            checks.same("12: none", s.knotCount(), 3);
        }
        MonotoneSpline s = Splines.fitted(-1.0, 0.0, 0.0, 1.0, 1.0, 4.0);
        checks.same("12: 0.0001 behind", s.insertKnot(0.0001), 2);
        MonotoneSpline first = Splines.fitted(0.0, 0.0, 1.0, 1.0);
        checks.refused("12: too near behind the first", ARGUMENT, () -> first.insertKnot(Math.nextDown(0.0001)));
        checks.same("12: 0.0001 behind the first", first.insertKnot(0.0001), 1);
    }

    private static void insertBeforeAKnot() {
        for (double near : new double[] {0.000001, 0.00005, Math.nextDown(0.0001)}) {
            MonotoneSpline s = Splines.fitted(-1.0, 0.0, 0.0, 1.0, 1.0, 4.0);
            checks.refused("12: " + near + " before", ARGUMENT, () -> s.insertKnot(-near));
            checks.same("12: none", s.knotCount(), 3);
        }
        MonotoneSpline s = Splines.fitted(-1.0, 0.0, 0.0, 1.0, 1.0, 4.0);
        checks.same("12: 0.0001 before", s.insertKnot(-0.0001), 1);
        MonotoneSpline last = Splines.fitted(-1.0, 0.0, 0.0, 1.0);
        checks.refused("12: too near before the last", ARGUMENT, () -> last.insertKnot(-Math.nextDown(0.0001)));
        checks.same("12: 0.0001 before the last", last.insertKnot(-0.0001), 1);
    }

    private static void insertAtADistanceThatIsComputedAsADouble() {
        MonotoneSpline less = Splines.fitted(1.0, 0.0, 6.0, 1.0);
        checks.refused("12: 1.0001 - 1.0 is less than 0.0001", ARGUMENT, () -> less.insertKnot(1.0001));
        checks.refused("12: 6.0 - 5.9999 too", ARGUMENT, () -> less.insertKnot(5.9999));
        checks.same("12: at the next place", less.insertKnot(Math.nextUp(1.0001)), 1);
        checks.same("12: at the next one below", less.insertKnot(Math.nextDown(5.9999)), 2);
        MonotoneSpline more = Splines.fitted(2.0, 0.0, 4.0, 1.0);
        checks.same("12: 2.0001 - 2.0 is not", more.insertKnot(2.0001), 1);
        checks.same("12: 4.0 - 3.9999 is not", more.insertKnot(3.9999), 2);
    }

    private static void smallPlaceOfANewKnotIsTakenAs0() {
        for (double x : SMALL) {
            MonotoneSpline s = Splines.fitted(-1.0, 0.0, 1.0, 4.0);
            double height = s.value(0.0);
            checks.same("12: a small place", s.insertKnot(x), 1);
            checks.same("12: " + x + " is 0", s.knotPlace(1), 0.0);
            checks.same("12: the value there", s.knotValue(1), height);
        }
        for (double x : new double[] {0.000001, -0.000001}) {
            MonotoneSpline s = Splines.fitted(-1.0, 0.0, 1.0, 4.0);
            s.insertKnot(x);
            checks.same("12: " + x + " is kept", s.knotPlace(1), x);
        }
    }

    private static void smallPlaceIsTakenAs0ForTheExceptions() {
        MonotoneSpline near = Splines.fitted(-1.0, 0.0, 0.0000995, 4.0);
        checks.refused("12: 0 is too near, -0.0000009 would not be", ARGUMENT, () -> near.insertKnot(-0.0000009));
        MonotoneSpline far = Splines.fitted(-1.0, 0.0, 0.0001, 4.0);
        checks.same("12: 0 is far enough, 0.0000009 would not be", far.insertKnot(0.0000009), 1);
        MonotoneSpline outside = Splines.fitted(-1.0, 0.0, 0.0, 4.0);
        checks.refused("12: 0 is the last place, -0.0000009 is not", ARGUMENT, () -> outside.insertKnot(-0.0000009));
    }

    private static void atMostSixtyKnots() {
        MonotoneSpline s = Splines.sixtyKnots();
        checks.refused("12: one more", STATE, () -> s.insertKnot(30.5));
        checks.refused("12: one more at the least distance", STATE, () -> s.insertKnot(0.0001));
        checks.same("12: sixty", s.knotCount(), 60);
        checks.same("12: one less", s.removeKnot(58), 59);
        checks.same("12: one again", s.insertKnot(38.5), 58);
        checks.refused("12: and no more", STATE, () -> s.insertKnot(30.5));
    }

    private static void wrongPlaceBeforeSixtyKnots() {
        MonotoneSpline s = Splines.sixtyKnots();
        for (double x : new double[] {0.0, 39.0, -1.0, 40.0, 30.0, 30.00009, 29.99991, NAN, ENDLESS, -ENDLESS}) {
            checks.refused("12: sixty knots, at " + x, ARGUMENT, () -> s.insertKnot(x));
        }
    }

    private static void newKnotHasTheValueAndTheSlopeOfTheSpline() {
        MonotoneSpline s = Splines.fitted(0.0, 0.0, 1.0, 1.0, 2.0, 4.0);
        double height = s.value(1.3);
        double slope = s.slope(1.3);
        s.insertKnot(1.3);
        checks.same("12: the value", s.knotValue(2), height);
        checks.same("12: the slope", s.knotSlope(2), slope);
        checks.same("12: it is fixed", s.isFixed(2), true);
    }

    /** Rounding alone leads the cubic out of the values at its ends. */
    private static void newKnotHasTheValueBehindIfTheSplineIsGreater() {
        MonotoneSpline s = Splines.fitted(-530000.0, 3.0, 670000.0, 9.0);
        s.fixSlope(0, MILLION);
        s.fixSlope(1, 0.0);
        checks.isTrue("12: the spline is greater", s.value(669999.287) > 9.0);
        checks.same("12: there", s.insertKnot(669999.287), 1);
        checks.same("12: the value behind", s.knotValue(1), 9.0);
    }

    private static void newKnotHasTheValueBeforeIfTheSplineIsLess() {
        MonotoneSpline s = Splines.tinyValues();
        checks.isTrue("12: the spline is less", s.value(28.614) < s.knotValue(0));
        checks.same("12: there", s.insertKnot(28.614), 1);
        checks.same("12: the value before", s.knotValue(1), 0.0);
    }

    private static void newKnotHasTheSlope0IfTheSplineHasANegativeOne() {
        MonotoneSpline s = Splines.fitted(4.1, 2.1, 6.3999999999999995, 5.2);
        s.fixSlope(0, MILLION);
        s.fixSlope(1, MILLION);
        double middle = (4.1 + 6.3999999999999995) / 2;
        checks.isTrue("12: the slope is negative", s.slope(middle) < 0.0);
        checks.same("12: there", s.insertKnot(middle), 1);
        checks.same("12: 0", s.knotSlope(1), 0.0);
        checks.same("12: 0 is fixed", s.isFixed(1), true);
    }

    private static void valuesNeverDecrease() {
        MonotoneSpline s = Splines.fitted(-530000.0, 3.0, 670000.0, 9.0);
        s.fixSlope(0, MILLION);
        s.fixSlope(1, 0.0);
        for (int i = 0; i < 58; i++) {
            s.insertKnot(669999.9 - i * 0.01);
        }
        checks.same("12: sixty knots", s.knotCount(), 60);
        for (int k = 1; k < 60; k++) {
            checks.isTrue("12: knot " + k + " is not less", s.knotValue(k) >= s.knotValue(k - 1));
        }
    }

    // ---- promise 13

    private static void removeFirstOrLastKnot() {
        MonotoneSpline s = Splines.sixtyKnots();
        checks.refused("13: the first of sixty", ARGUMENT, () -> s.removeKnot(0));
        checks.refused("13: the last of sixty", ARGUMENT, () -> s.removeKnot(59));
        MonotoneSpline two = Splines.fitted(0.0, 0.0, 1.0, 1.0);
        checks.refused("13: the first of two", ARGUMENT, () -> two.removeKnot(0));
        checks.refused("13: the last of two", ARGUMENT, () -> two.removeKnot(1));
        checks.same("13: still two", two.knotCount(), 2);
    }

    private static void removeAllKnotsBetween() {
        MonotoneSpline s = Splines.sixtyKnots();
        checks.same("13: the last but one", s.removeKnot(58), 59);
        for (int left = 58; left >= 2; left--) {
            checks.same("13: the second", s.removeKnot(1), left);
        }
        checks.same("13: the first place", s.knotPlace(0), 0.0);
        checks.same("13: the last place", s.knotPlace(1), 39.0);
        checks.same("13: the last value", s.knotValue(1), 39.0);
        checks.same("13: the last one stays free", s.isFixed(1), false);
    }

    // ---- promise 14

    private static void valueFromMinusAMillionToAMillion() {
        MonotoneSpline s = Splines.fitted(0.0, 0.0, 1.0, 1.0, 2.0, 2.0);
        String before = Splines.stateOf(s);
        for (double y : OUTSIDE) {
            for (int i = 0; i < 3; i++) {
                int k = i;
                checks.refused("14: knot " + k + " to " + y, ARGUMENT, () -> s.setKnotValue(k, y));
            }
        }
        checks.same("14: nothing is changed", Splines.stateOf(s), before);
        checks.same("14: the least value", s.setKnotValue(0, -MILLION), 0.0);
        checks.same("14: the greatest value", s.setKnotValue(2, MILLION), 2.0);
        checks.same("14: again", s.setKnotValue(0, -MILLION), -MILLION);
    }

    /** A fitted value may be above 1000000 by rounding: then no number at all is allowed there. */
    private static void valueAboveAMillionComesFromFitAlone() {
        MonotoneSpline s = new MonotoneSpline();
        s.addPoint(0.0, 0.0, 1.0);
        s.addPoint(1.0, MILLION, 0.29);
        s.addPoint(2.0, MILLION, 0.35);
        s.fit();
        checks.same("14: above a million", s.knotValue(2), ABOVE_MILLION);
        checks.refused("14: the value that it has", ARGUMENT, () -> s.setKnotValue(2, ABOVE_MILLION));
        checks.refused("14: less than the one before", ARGUMENT, () -> s.setKnotValue(2, MILLION));
        checks.same("14: a million for the one before", s.setKnotValue(1, MILLION), ABOVE_MILLION);
        checks.same("14: and for the last", s.setKnotValue(2, MILLION), ABOVE_MILLION);
    }

    private static void valueNotLessThanTheOneBefore() {
        MonotoneSpline s = Splines.fitted(0.0, 1.0, 1.0, 2.0, 2.0, 3.0);
        checks.refused("14: less than the one before", ARGUMENT, () -> s.setKnotValue(1, Math.nextDown(1.0)));
        checks.refused("14: the last one too", ARGUMENT, () -> s.setKnotValue(2, Math.nextDown(2.0)));
        checks.same("14: as the one before", s.setKnotValue(1, 1.0), 2.0);
        checks.same("14: the last one too", s.setKnotValue(2, 1.0), 3.0);
        checks.same("14: the first has none before", s.setKnotValue(0, -5.0), 1.0);
    }

    private static void valueNotGreaterThanTheOneBehind() {
        MonotoneSpline s = Splines.fitted(0.0, 1.0, 1.0, 2.0, 2.0, 3.0);
        checks.refused("14: greater than the one behind", ARGUMENT, () -> s.setKnotValue(1, Math.nextUp(3.0)));
        checks.refused("14: the first one too", ARGUMENT, () -> s.setKnotValue(0, Math.nextUp(2.0)));
        checks.same("14: as the one behind", s.setKnotValue(1, 3.0), 2.0);
        checks.same("14: the first one too", s.setKnotValue(0, 3.0), 1.0);
        checks.same("14: the last has none behind", s.setKnotValue(2, 50.0), 3.0);
    }

    private static void smallValueIsTakenAs0() {
        for (double y : SMALL) {
            MonotoneSpline s = Splines.fitted(0.0, -1.0, 1.0, 0.5, 2.0, 3.0);
            checks.same("14: the value before", s.setKnotValue(1, y), 0.5);
            checks.same("14: " + y + " is 0", s.knotValue(1), 0.0);
        }
        for (double y : new double[] {0.000001, -0.000001}) {
            MonotoneSpline s = Splines.fitted(0.0, -1.0, 1.0, 0.5, 2.0, 3.0);
            s.setKnotValue(1, y);
            checks.same("14: " + y + " is kept", s.knotValue(1), y);
        }
    }

    private static void smallValueIsTakenAs0ForTheExceptions() {
        MonotoneSpline s = Splines.fitted(0.0, 0.0, 1.0, 1.0, 2.0, 3.0);
        checks.same("14: 0 is not less than 0, -0.0000009 would be", s.setKnotValue(1, -0.0000009), 1.0);
        checks.same("14: 0 is not greater than 0, 0.0000009 would be", s.setKnotValue(0, 0.0000009), 0.0);
        MonotoneSpline t = Splines.fitted(0.0, 0.000001, 1.0, 0.0, 2.0, 3.0);
        checks.same("14: a value between", t.knotValue(1), 0.0000005);
        checks.refused("14: 0 is less, 0.0000009 would not be", ARGUMENT, () -> t.setKnotValue(2, 0.0000009));
        checks.refused("14: even the value itself", ARGUMENT, () -> t.setKnotValue(1, 0.0000005));
    }

    // ---- promises 15 and 16

    private static void slopeFrom0ToAMillion() {
        MonotoneSpline s = Splines.fitted(0.0, -MILLION, 1.0, MILLION);
        checks.same("15: the greatest slope", s.fixSlope(0, MILLION), MILLION);
        checks.same("15: the least slope", s.fixSlope(1, 0.0), 0.0);
        double[] wrong = {ABOVE_MILLION, -0.000001, -1.0, -MILLION, Double.MAX_VALUE, -Double.MAX_VALUE, ENDLESS, -ENDLESS,
            NAN};
        for (double slope : wrong) {
            checks.refused("15: " + slope, ARGUMENT, () -> s.fixSlope(0, slope));
            checks.same("15: the slope stays", s.knotSlope(0), MILLION);
        }
        s.freeSlope(0);
        for (double slope : wrong) {
            checks.refused("15: " + slope + " for a free one", ARGUMENT, () -> s.fixSlope(0, slope));
            checks.same("15: it stays free", s.isFixed(0), false);
        }
    }

    private static void smallSlopeIsTakenAs0() {
        for (double slope : SMALL) {
            MonotoneSpline s = Splines.fitted(0.0, 0.0, 1.0, 1.0);
            checks.same("15: " + slope + " is 0, also if it is negative", s.fixSlope(0, slope), 0.0);
            checks.same("15: 0 is a fixed slope", s.isFixed(0), true);
        }
        MonotoneSpline s = Splines.fitted(0.0, 0.0, 1.0, 1.0);
        checks.same("15: 0.000001 is kept", s.fixSlope(0, 0.000001), 0.000001);
    }

    private static void fixAgain() {
        MonotoneSpline s = Splines.fitted(0.0, 0.0, 1.0, 1.0);
        s.fixSlope(0, 2.0);
        checks.same("15: another slope", s.fixSlope(0, 1.0), 1.0);
        checks.same("15: the limit", s.fixSlope(0, 8.0), 3.0);
        checks.same("10: the slope of the knot", s.knotSlope(0), 3.0);
    }

    private static void freeTwice() {
        MonotoneSpline s = Splines.fitted(0.0, 0.0, 1.0, 1.0, 2.0, 4.0);
        s.fixSlope(1, 0.0);
        checks.same("16: it was fixed, with 0 too", s.freeSlope(1), true);
        checks.same("16: it was free", s.freeSlope(1), false);
        checks.same("10: the free slope", s.knotSlope(1), 1.5);
    }

    private static void freeAnInsertedKnot() {
        MonotoneSpline s = Splines.fitted(0.0, 0.0, 2.0, 2.0);
        s.fixSlope(0, 0.0);
        s.insertKnot(1.0);
        double before = s.knotValue(1);
        double behind = 2.0 - before;
        checks.same("16: a new knot is fixed", s.freeSlope(1), true);
        checks.same("10: its free slope", s.knotSlope(1), 6.0 / (3.0 / before + 3.0 / behind));
    }

    public static void main(String[] args) {
        freeSlopeOfTheFirstAndTheLastKnot();
        freeSlopeIs0BesideAFlatPiece();
        freeSlopeIs0WhereTheQuotientVanishes();
        slopeIsItsLimitIfItIsGreater();
        limitOfTheFirstAndTheLastKnotIsOfTheOnlyPiece();
        freeSlopeStaysBelowItsLimit();
        noKnotsWithoutAFit();
        noSuchKnotOfFewOrMany();
        firstAndLastOfSixtyKnots();
        limitedSlopeIsFixedAllTheSame();
        insertOnlyBetweenTheFirstAndTheLastKnot();
        insertWithoutKnots();
        insertBehindAKnot();
        insertBeforeAKnot();
        insertAtADistanceThatIsComputedAsADouble();
        smallPlaceOfANewKnotIsTakenAs0();
        smallPlaceIsTakenAs0ForTheExceptions();
        atMostSixtyKnots();
        wrongPlaceBeforeSixtyKnots();
        newKnotHasTheValueAndTheSlopeOfTheSpline();
        newKnotHasTheValueBehindIfTheSplineIsGreater();
        newKnotHasTheValueBeforeIfTheSplineIsLess();
        newKnotHasTheSlope0IfTheSplineHasANegativeOne();
        valuesNeverDecrease();
        removeFirstOrLastKnot();
        removeAllKnotsBetween();
        valueFromMinusAMillionToAMillion();
        valueAboveAMillionComesFromFitAlone();
        valueNotLessThanTheOneBefore();
        valueNotGreaterThanTheOneBehind();
        smallValueIsTakenAs0();
        smallValueIsTakenAs0ForTheExceptions();
        slopeFrom0ToAMillion();
        smallSlopeIsTakenAs0();
        fixAgain();
        freeTwice();
        freeAnInsertedKnot();
        checks.end();
    }
}
