import java.util.ArrayList;
import java.util.List;

/**
 * The document once more, written apart from the program and with the Java library: each call answers
 * with a text, numbers by their bits, and "throws.E" for an exception.
 */
final class Model {
    private static final class Point {
        double x;
        double y;
        double weight;
    }

    private static final class Knot {
        double x;
        double y;
        /** NaN: the slope is free. */
        double fixed = Double.NaN;
    }

    private static final String ARGUMENT = "throws.IllegalArgumentException";
    private static final String STATE = "throws.IllegalStateException";
    private static final String INDEX = "throws.IndexOutOfBoundsException";
    private static final double MILLION = 1000000;

    final List<Point> points = new ArrayList<>();
    final List<Knot> knots = new ArrayList<>();
    private final int[] kinds = new int[2];
    private final double[] factors = new double[2];

    static String text(double x) {
        return x + " #" + Long.toHexString(Double.doubleToLongBits(x));
    }

    private static double taken(double x) {
        return Math.abs(x) < 0.000001 ? 0.0 : x;
    }

    private static boolean outside(double x, double a, double b) {
        return !(a <= x && x <= b);
    }

    String addPoint(double x0, double y0, double weight) {
        Point point = new Point();
        point.x = taken(x0);
        point.y = taken(y0);
        point.weight = weight;
        if (outside(point.x, -MILLION, MILLION) || outside(point.y, -MILLION, MILLION) || outside(weight, 0.001, 1000)) {
            return ARGUMENT;
        }
        if (points.stream().anyMatch(p -> Math.abs(p.x - point.x) < 0.001)) {
            return ARGUMENT;
        }
        if (points.size() == 40) {
            return STATE;
        }
        points.add(point);
        points.sort((p, q) -> Double.compare(p.x, q.x));
        return "" + points.indexOf(point);
    }

    String removePoint(int index) {
        if (index < 0 || index >= points.size()) {
            return INDEX;
        }
        points.remove(index);
        return "" + points.size();
    }

    String pointCount() {
        return "" + points.size();
    }

    String pointPlace(int index) {
        return index < 0 || index >= points.size() ? INDEX : text(points.get(index).x);
    }

    String fit() {
        if (points.size() < 2) {
            return STATE;
        }
        List<double[]> blocks = new ArrayList<>();
        for (Point p : points) {
            double[] last = {p.weight, p.weight * p.y, 1};
            while (!blocks.isEmpty()) {
                double[] left = blocks.get(blocks.size() - 1);
                if (!(last[1] / last[0] < left[1] / left[0])) {
                    break;
                }
                blocks.remove(blocks.size() - 1);
                last = new double[] {left[0] + last[0], left[1] + last[1], left[2] + last[2]};
            }
            blocks.add(last);
        }
        knots.clear();
        for (double[] block : blocks) {
            for (int i = 0; i < block[2]; i++) {
                Knot knot = new Knot();
                knot.x = points.get(knots.size()).x;
                knot.y = block[1] / block[0];
                knots.add(knot);
            }
        }
        return "" + blocks.size();
    }

    String knotCount() {
        return "" + knots.size();
    }

    double place(int k) {
        return knots.get(k).x;
    }

    double height(int k) {
        return knots.get(k).y;
    }

    private boolean lacks(int k) {
        return k < 0 || k >= knots.size();
    }

    String knotPlace(int k) {
        return lacks(k) ? INDEX : text(knots.get(k).x);
    }

    String knotValue(int k) {
        return lacks(k) ? INDEX : text(knots.get(k).y);
    }

    String knotSlope(int k) {
        return lacks(k) ? INDEX : text(slopes()[k]);
    }

    String isFixed(int k) {
        return lacks(k) ? INDEX : "" + !Double.isNaN(knots.get(k).fixed);
    }

    private double h(int k) {
        return knots.get(k + 1).x - knots.get(k).x;
    }

    private double d(int k) {
        return (knots.get(k + 1).y - knots.get(k).y) / h(k);
    }

    private double[] slopes() {
        int last = knots.size() - 1;
        double[] result = new double[last + 1];
        for (int k = 0; k <= last; k++) {
            double free;
            double limit;
            if (k == 0) {
                free = d(0);
                limit = 3 * d(0);
            } else if (k == last) {
                free = d(last - 1);
                limit = 3 * d(last - 1);
            } else {
                limit = 3 * Math.min(d(k - 1), d(k));
                double v = 2 * h(k) + h(k - 1);
                double w = h(k) + 2 * h(k - 1);
                free = d(k - 1) == 0 || d(k) == 0 ? 0 : (v + w) / (v / d(k - 1) + w / d(k));
            }
            double wanted = Double.isNaN(knots.get(k).fixed) ? free : knots.get(k).fixed;
            result[k] = wanted > limit ? limit : wanted;
        }
        return result;
    }

    private static final int VALUE = 0;
    private static final int SLOPE = 1;
    private static final int PART = 2;

    private double onPiece(int what, int k, double x) {
        double[] slopes = slopes();
        double m = slopes[k];
        double n = slopes[k + 1];
        double p = (3 * d(k) - 2 * m - n) / h(k);
        double q = (m + n - 2 * d(k)) / (h(k) * h(k));
        double s = x - knots.get(k).x;
        double y = knots.get(k).y;
        switch (what) {
            case VALUE:
                return y + s * (m + s * (p + s * q));
            case SLOPE:
                return m + s * (2 * p + s * (3 * q));
            default:
                return s * (y + s * (m / 2 + s * (p / 3 + s * (q / 4))));
        }
    }

    private int piece(double x) {
        int k = knots.size() - 2;
        while (knots.get(k).x > x) {
            k--;
        }
        return k;
    }

    private boolean beyond(double x) {
        return knots.isEmpty() || outside(x, knots.get(0).x, knots.get(knots.size() - 1).x);
    }

    String insertKnot(double x0) {
        double x = taken(x0);
        if (knots.isEmpty() || !(x > knots.get(0).x) || !(x < knots.get(knots.size() - 1).x)) {
            return ARGUMENT;
        }
        int k = piece(x);
        if (x - knots.get(k).x < 0.0001 || knots.get(k + 1).x - x < 0.0001) {
            return ARGUMENT;
        }
        if (knots.size() == 60) {
            return STATE;
        }
        Knot knot = new Knot();
        knot.x = x;
        knot.y = onPiece(VALUE, k, x);
        knot.y = Math.max(knot.y, knots.get(k).y);
        knot.y = Math.min(knot.y, knots.get(k + 1).y);
        knot.fixed = Math.max(onPiece(SLOPE, k, x), 0);
        knots.add(k + 1, knot);
        return "" + (k + 1);
    }

    String removeKnot(int k) {
        if (lacks(k)) {
            return INDEX;
        }
        if (k == 0 || k == knots.size() - 1) {
            return ARGUMENT;
        }
        knots.remove(k);
        return "" + knots.size();
    }

    String setKnotValue(int k, double y0) {
        if (lacks(k)) {
            return INDEX;
        }
        double y = taken(y0);
        double low = k == 0 ? -MILLION : Math.max(-MILLION, knots.get(k - 1).y);
        double high = k == knots.size() - 1 ? MILLION : Math.min(MILLION, knots.get(k + 1).y);
        if (outside(y, low, high)) {
            return ARGUMENT;
        }
        double before = knots.get(k).y;
        knots.get(k).y = y;
        return text(before);
    }

    String fixSlope(int k, double slope0) {
        if (lacks(k)) {
            return INDEX;
        }
        double slope = taken(slope0);
        if (outside(slope, 0, MILLION)) {
            return ARGUMENT;
        }
        knots.get(k).fixed = slope;
        return text(slopes()[k]);
    }

    String freeSlope(int k) {
        if (lacks(k)) {
            return INDEX;
        }
        boolean before = !Double.isNaN(knots.get(k).fixed);
        knots.get(k).fixed = Double.NaN;
        return "" + before;
    }

    String value(double x) {
        return beyond(x) ? ARGUMENT : text(onPiece(VALUE, piece(x), x));
    }

    String slope(double x) {
        return beyond(x) ? ARGUMENT : text(onPiece(SLOPE, piece(x), x));
    }

    private double upTo(double x) {
        double sum = 0;
        for (int k = 0; k < piece(x); k++) {
            sum += onPiece(PART, k, knots.get(k + 1).x);
        }
        return sum + onPiece(PART, piece(x), x);
    }

    String area(double from, double to) {
        return beyond(from) || beyond(to) ? ARGUMENT : text(upTo(to) - upTo(from));
    }

    String reach(double y) {
        if (knots.isEmpty() || outside(y, knots.get(0).y, knots.get(knots.size() - 1).y)) {
            return ARGUMENT;
        }
        int k = 0;
        while (knots.get(k + 1).y < y) {
            k++;
        }
        double low = knots.get(k).x;
        double high = knots.get(k + 1).x;
        for (int i = 1; i <= 60; i++) {
            double mid = (low + high) / 2;
            if (onPiece(VALUE, k, mid) < y) {
                low = mid;
            } else {
                high = mid;
            }
        }
        return text(high);
    }

    String steepest() {
        int best = -1;
        for (int k = knots.size() - 2; k >= 0; k--) {
            if (best < 0 || d(k) >= d(best)) {
                best = k;
            }
        }
        return "" + best;
    }

    String flatCount() {
        int count = 0;
        for (int k = 0; k + 1 < knots.size(); k++) {
            count += d(k) == 0 ? 1 : 0;
        }
        return "" + count;
    }

    String setTail(int end, int kind, double a0) {
        if (end < 0 || end > 1) {
            return INDEX;
        }
        double a = taken(a0);
        if (kind < 0 || kind > 6 || outside(a, -MILLION, MILLION) || kind > 3 && a == 0) {
            return ARGUMENT;
        }
        int before = kinds[end];
        kinds[end] = kind;
        factors[end] = a;
        return "" + before;
    }

    String limit(int end) {
        if (end < 0 || end > 1) {
            return INDEX;
        }
        if (knots.isEmpty()) {
            return STATE;
        }
        double endless = Double.POSITIVE_INFINITY;
        double[] right = {0, Math.PI / 2, 1, -1, endless, endless, endless};
        double[] left = {0, -Math.PI / 2, -1, -1, -endless, -endless, endless};
        int kind = kinds[end];
        double y = knots.get(end == 0 ? 0 : knots.size() - 1).y;
        return text(kind == 0 ? y : y + factors[end] * (end == 0 ? left : right)[kind]);
    }

    String digest() {
        long d = 59;
        d = d * 31 + points.size();
        d = d * 31 + knots.size();
        double[] slopes = slopes();
        for (int k = 0; k < knots.size(); k++) {
            d = d * 31 + Double.doubleToLongBits(knots.get(k).x);
            d = d * 31 + Double.doubleToLongBits(knots.get(k).y);
            d = d * 31 + Double.doubleToLongBits(slopes[k]);
            d = d * 31 + (Double.isNaN(knots.get(k).fixed) ? 0 : 1);
        }
        d = d * 31 + kinds[0];
        d = d * 31 + kinds[1];
        return "" + d;
    }
}
