/** Splines that the tests begin with. */
final class Splines {
    private Splines() {
    }

    /** Points with the weight 1: a place, a value, the next place and so on. */
    static MonotoneSpline points(double... numbers) {
        MonotoneSpline s = new MonotoneSpline();
        for (int i = 0; i < numbers.length; i += 2) {
            s.addPoint(numbers[i], numbers[i + 1], 1.0);
        }
        return s;
    }

    static MonotoneSpline fitted(double... numbers) {
        MonotoneSpline s = points(numbers);
        s.fit();
        return s;
    }

    /** Forty points and, with 20 more between them, sixty knots. */
    static MonotoneSpline sixtyKnots() {
        MonotoneSpline s = fortyPoints();
        s.fit();
        for (int i = 0; i < 20; i++) {
            s.insertKnot(i + 0.5);
        }
        return s;
    }

    static MonotoneSpline fortyPoints() {
        MonotoneSpline s = new MonotoneSpline();
        for (int i = 0; i < 40; i++) {
            s.addPoint(i, i, 1.0);
        }
        return s;
    }

    /**
     * The value of knot 26 is not 0 but so small that it vanishes in the quotient with the width of the
     * piece before it. A knot close behind the last one with the value 0 has a value that is smaller by
     * far than that of the next one; without the one with the value 0 there is a wide piece again.
     */
    static MonotoneSpline vanishingRise() {
        MonotoneSpline s = new MonotoneSpline();
        for (int i = 0; i < 40; i++) {
            s.addPoint(50000.0 * i - 1000000.0, i == 39 ? 0.000001 : 0.0, 1.0);
        }
        s.fit();
        for (int zero = 38; zero >= 26; zero--) {
            s.insertKnot(s.knotPlace(zero) + (zero == 26 ? 1.0 : 0.00011));
            s.removeKnot(zero);
        }
        return s;
    }

    /**
     * Values become as small as a double gets where knots are inserted close behind one with the value
     * 0, which is then removed; in that range rounding bends the spline down.
     */
    static MonotoneSpline tinyValues() {
        MonotoneSpline s = Splines.points(0.0, 0.0, 30.0, 0.0);
        for (int i = 1; i <= 20; i++) {
            s.addPoint(50000.0 * i, i == 20 ? 0.000001 : 0.0, 1.0);
        }
        s.fit();
        for (int zero = 20; zero > 8; zero--) {
            s.insertKnot(s.knotPlace(zero) + 0.00011);
            s.removeKnot(zero);
        }
        for (int zero = 8; zero > 2; zero--) {
            s.removeKnot(zero);
        }
        s.removeKnot(2);
        s.fixSlope(2, 0.0);
        s.insertKnot(30.12);
        s.removeKnot(1);
        s.fixSlope(0, 1.0);
        s.fixSlope(1, 1.0);
        return s;
    }

    /** Each answer that a spline gives without being changed, to the last bit. */
    static String stateOf(MonotoneSpline s) {
        StringBuilder state = new StringBuilder();
        for (int i = 0; i < s.pointCount(); i++) {
            state.append(" point ").append(s.pointPlace(i));
        }
        for (int k = 0; k < s.knotCount(); k++) {
            state.append("\nknot ").append(s.knotPlace(k)).append(' ').append(s.knotValue(k));
            state.append(' ').append(s.knotSlope(k)).append(' ').append(s.isFixed(k));
            state.append(' ').append(s.value(s.knotPlace(k))).append(' ').append(s.reach(s.knotValue(k)));
            state.append(' ').append(s.area(s.knotPlace(0), s.knotPlace(k)));
        }
        for (int end = 0; end < 2 && s.knotCount() > 0; end++) {
            state.append("\nlimit ").append(s.limit(end));
        }
        state.append('\n').append(s.steepest()).append(' ').append(s.flatCount()).append(' ').append(s.digest());
        return state.toString();
    }
}
