/**
 * A fitter of monotone splines: weighted points are fitted by values that do not decrease, and a
 * cubic spline that does not decrease either is laid through these.
 *
 * <p>Every formula is written in the order of the document, because each of its operations rounds.
 */
public final class MonotoneSpline {
    private static final int MOST_POINTS = 40;
    private static final int MOST_KNOTS = 60;
    private static final int HALVINGS = 60;

    private static final int NONE = 0;
    private static final int ATAN = 1;
    private static final int TANH = 2;
    private static final int EXPM1 = 3;
    private static final int SINH = 4;
    private static final int CBRT = 5;
    private static final int LOG1P = 6;

    private final Points points;
    private final Blocks blocks;
    private final Knots knots;
    private final Piece piece;
    private final Tail leftTail;
    private final Tail rightTail;

    public MonotoneSpline() {
        points = new Points();
        blocks = new Blocks();
        knots = new Knots();
        piece = new Piece();
        leftTail = new Tail(true);
        rightTail = new Tail(false);
    }

    // ---- points

    public int addPoint(double x, double y, double weight) throws IllegalArgumentException, IllegalStateException {
        double place = settled(x);
        double height = settled(y);
        if (!isFrom(-1000000.0, 1000000.0, place) || !isFrom(-1000000.0, 1000000.0, height)) {
            throw new IllegalArgumentException("x and y are from -1000000 to 1000000");
        }
        if (!isFrom(0.001, 1000.0, weight)) {
            throw new IllegalArgumentException("a weight is from 0.001 to 1000");
        }
        if (points.isCrowdedAt(place)) {
            throw new IllegalArgumentException("there is a point less than 0.001 away");
        }
        if (points.count >= MOST_POINTS) {
            throw new IllegalStateException("there are 40 points");
        }
        return points.add(place, height, weight);
    }

    public int removePoint(int index) throws IndexOutOfBoundsException {
        requirePoint(index);
        points.remove(index);
        return points.count;
    }

    public int pointCount() {
        return points.count;
    }

    public double pointPlace(int index) throws IndexOutOfBoundsException {
        requirePoint(index);
        return points.places.get(index);
    }

    public int fit() throws IllegalStateException {
        if (points.count < 2) {
            throw new IllegalStateException("there are fewer than 2 points");
        }
        blocks.clear();
        for (int i = 0; i < points.count; i++) {
            blocks.add(points.heights.get(i), points.weights.get(i));
        }
        knots.clear();
        for (int block = 0; block < blocks.count; block++) {
            layKnotsOf(block);
        }
        return blocks.count;
    }

    /** A knot has the index of its point, so the number of knots so far tells the next point. */
    private void layKnotsOf(int block) {
        double level = blocks.levelOf(block);
        int size = blocks.sizeOf(block);
        for (int i = 0; i < size; i++) {
            knots.insert(knots.count, points.places.get(knots.count), level, Knots.FREE);
        }
    }

    // ---- knots

    public int knotCount() {
        return knots.count;
    }

    public double knotPlace(int k) throws IndexOutOfBoundsException {
        requireKnot(k);
        return knots.places.get(k);
    }

    public double knotValue(int k) throws IndexOutOfBoundsException {
        requireKnot(k);
        return knots.heights.get(k);
    }

    public double knotSlope(int k) throws IndexOutOfBoundsException {
        requireKnot(k);
        return knots.slopeOf(k);
    }

    public boolean isFixed(int k) throws IndexOutOfBoundsException {
        requireKnot(k);
        return knots.hasFixedSlope(k);
    }

    public int insertKnot(double x) throws IllegalArgumentException, IllegalStateException {
        double place = settled(x);
        if (!knots.liesBetweenEnds(place)) {
            throw new IllegalArgumentException("x is not between the first and the last knot");
        }
        int before = knots.pieceAt(place);
        int behind = before + 1;
        if (place - knots.places.get(before) < 0.0001 || knots.places.get(behind) - place < 0.0001) {
            throw new IllegalArgumentException("there is a knot less than 0.0001 away");
        }
        if (knots.count >= MOST_KNOTS) {
            throw new IllegalStateException("there are 60 knots");
        }
        layPiece(before);
        double height = piece.heightAt(place);
        // Rounding may lead the cubic a little out of its two values, and its slope below 0.
        double kept = within(knots.heights.get(before), knots.heights.get(behind), height);
        double steepness = piece.steepnessAt(place);
        knots.insert(behind, place, kept, steepness < 0.0 ? 0.0 : steepness);
        return behind;
    }

    public int removeKnot(int k) throws IndexOutOfBoundsException, IllegalArgumentException {
        requireKnot(k);
        if (k == 0 || k == knots.count - 1) {
            throw new IllegalArgumentException("the first and the last knot stay");
        }
        knots.remove(k);
        return knots.count;
    }

    public double setKnotValue(int k, double y) throws IndexOutOfBoundsException, IllegalArgumentException {
        requireKnot(k);
        double height = settled(y);
        if (!isFrom(-1000000.0, 1000000.0, height)) {
            throw new IllegalArgumentException("a value is from -1000000 to 1000000");
        }
        if (k > 0 && height < knots.heights.get(k - 1)) {
            throw new IllegalArgumentException("the knot before has a greater value");
        }
        if (k < knots.count - 1 && height > knots.heights.get(k + 1)) {
            throw new IllegalArgumentException("the knot behind has a smaller value");
        }
        double former = knots.heights.get(k);
        knots.heights.set(k, height);
        return former;
    }

    public double fixSlope(int k, double slope) throws IndexOutOfBoundsException, IllegalArgumentException {
        requireKnot(k);
        double steepness = settled(slope);
        if (!isFrom(0.0, 1000000.0, steepness)) {
            throw new IllegalArgumentException("a slope is from 0 to 1000000");
        }
        knots.fixedSlopes.set(k, steepness);
        return knots.slopeOf(k);
    }

    public boolean freeSlope(int k) throws IndexOutOfBoundsException {
        requireKnot(k);
        boolean wasFixed = knots.hasFixedSlope(k);
        knots.fixedSlopes.set(k, Knots.FREE);
        return wasFixed;
    }

    // ---- the spline

    public double value(double x) throws IllegalArgumentException {
        requireOnSpline(x);
        layPiece(knots.pieceAt(x));
        return piece.heightAt(x);
    }

    public double slope(double x) throws IllegalArgumentException {
        requireOnSpline(x);
        layPiece(knots.pieceAt(x));
        return piece.steepnessAt(x);
    }

    public double area(double from, double to) throws IllegalArgumentException {
        requireOnSpline(from);
        requireOnSpline(to);
        return areaUpTo(to) - areaUpTo(from);
    }

    private double areaUpTo(double x) {
        int last = knots.pieceAt(x);
        double sum = 0.0;
        for (int k = 0; k < last; k++) {
            layPiece(k);
            sum = sum + piece.partUpTo(knots.places.get(k + 1));
        }
        layPiece(last);
        return sum + piece.partUpTo(x);
    }

    public double reach(double y) throws IllegalArgumentException {
        if (!knots.spansHeight(y)) {
            throw new IllegalArgumentException("y is not from the first value to the last one");
        }
        int k = knots.firstPieceReaching(y);
        layPiece(k);
        double low = knots.places.get(k);
        double high = knots.places.get(k + 1);
        for (int i = 0; i < HALVINGS; i++) {
            double mid = (low + high) / 2.0;
            if (piece.heightAt(mid) < y) {
                low = mid;
            } else {
                high = mid;
            }
        }
        return high;
    }

    public int steepest() {
        if (knots.count == 0) {
            return -1;
        }
        int best = 0;
        for (int k = 1; k < knots.count - 1; k++) {
            if (knots.riseOf(k) > knots.riseOf(best)) {
                best = k;
            }
        }
        return best;
    }

    public int flatCount() {
        int flat = 0;
        for (int k = 0; k < knots.count - 1; k++) {
            if (knots.riseOf(k) == 0.0) {
                flat++;
            }
        }
        return flat;
    }

    // ---- tails

    public int setTail(int end, int kind, double a) throws IndexOutOfBoundsException, IllegalArgumentException {
        requireEnd(end);
        double factor = settled(a);
        if (kind < NONE || kind > LOG1P) {
            throw new IllegalArgumentException("a kind is from 0 to 6");
        }
        if (!isFrom(-1000000.0, 1000000.0, factor)) {
            throw new IllegalArgumentException("a factor is from -1000000 to 1000000");
        }
        if (kind >= SINH && factor == 0.0) {
            throw new IllegalArgumentException("this kind needs a factor other than 0");
        }
        Tail tail = tailAt(end);
        int former = tail.kind;
        tail.kind = kind;
        tail.factor = factor;
        return former;
    }

    public double limit(int end) throws IndexOutOfBoundsException, IllegalStateException {
        requireEnd(end);
        if (knots.count == 0) {
            throw new IllegalStateException("there are no knots");
        }
        int k = end == 0 ? 0 : knots.count - 1;
        return tailAt(end).limitFrom(knots.heights.get(k));
    }

    private Tail tailAt(int end) {
        return end == 0 ? leftTail : rightTail;
    }

    public long digest() {
        long d = 59L;
        d = d * 31L + points.count;
        d = d * 31L + knots.count;
        for (int k = 0; k < knots.count; k++) {
            d = d * 31L + bitsOf(knots.places.get(k));
            d = d * 31L + bitsOf(knots.heights.get(k));
            d = d * 31L + bitsOf(knots.slopeOf(k));
            d = d * 31L + (knots.hasFixedSlope(k) ? 1L : 0L);
        }
        d = d * 31L + leftTail.kind;
        d = d * 31L + rightTail.kind;
        return d;
    }

    // ---- what the methods ask for

    private void requirePoint(int index) {
        if (index < 0 || index >= points.count) {
            throw new IndexOutOfBoundsException("there is no such point");
        }
    }

    private void requireKnot(int k) {
        if (k < 0 || k >= knots.count) {
            throw new IndexOutOfBoundsException("there is no such knot");
        }
    }

    private void requireOnSpline(double x) {
        if (!knots.spansPlace(x)) {
            throw new IllegalArgumentException("x is not from the first knot to the last one");
        }
    }

    private static void requireEnd(int end) {
        if (end != 0 && end != 1) {
            throw new IndexOutOfBoundsException("an end is 0 or 1");
        }
    }

    private void layPiece(int k) {
        piece.startAt(knots.places.get(k), knots.heights.get(k));
        piece.bend(knots.widthOf(k), knots.riseOf(k), knots.slopeOf(k), knots.slopeOf(k + 1));
    }

    // ---- numbers

    /** A comparison with no number at all is false, so that one is never in a range. */
    private static boolean isFrom(double low, double high, double number) {
        return number >= low && number <= high;
    }

    private static double within(double low, double high, double number) {
        if (number < low) {
            return low;
        }
        return number > high ? high : number;
    }

    private static double magnitude(double number) {
        return number < 0.0 ? -number : number;
    }

    /** What is stored is taken as 0 if it is very small. */
    private static double settled(double number) {
        return magnitude(number) < 0.000001 ? 0.0 : number;
    }

    /** No divisor of the document is ever 0: the test keeps a number that is none out all the same. */
    private static double ratio(double part, double whole) {
        return whole == 0.0 ? 0.0 : part / whole;
    }

    /**
     * The 64 bits of a knot's number. The language's part at hand has no call for them, so the number
     * is scaled up by powers of two, which is exact, until its 53 digits are a whole number. No knot
     * has a number near 2 to the 53rd, or -0.0: what is settled is not -0.0, and no sum of it is.
     */
    private static long bitsOf(double number) {
        if (number == 0.0) {
            return 0L;
        }
        double digits = magnitude(number);
        int scale = 0;
        while (digits < 68719476736.0 && scale >= -1058) {
            digits = digits * 65536.0;
            scale = scale - 16;
        }
        while (digits < 4503599627370496.0 && scale > -1074) {
            digits = digits * 2.0;
            scale = scale - 1;
        }
        long bits = (long) digits;
        // The leading digit of a full number adds the missing 1 to the exponent itself.
        if (bits >= 4503599627370496L) {
            bits = bits + ((long) (scale + 1074) << 52);
        }
        return number < 0.0 ? bits | (1L << 63) : bits;
    }

    // ---- what the fitter is made of

    /** A row of numbers that looks at each index before it is used. */
    private static final class Row {
        private final double[] cells;

        Row(int length) {
            cells = new double[length < 0 ? 0 : length];
        }

        double get(int i) {
            return i >= 0 && i < cells.length ? cells[i] : 0.0;
        }

        void set(int i, double number) {
            if (i >= 0 && i < cells.length) {
                cells[i] = number;
            }
        }

        /** Makes room at an index of a row of which so many cells are in use. */
        void insert(int at, int used, double number) {
            for (int i = used < cells.length ? used : cells.length - 1; i > at && i > 0; i--) {
                cells[i] = cells[i - 1];
            }
            set(at, number);
        }

        void remove(int at, int used) {
            for (int i = at < 0 ? 0 : at; i < used - 1 && i < cells.length - 1; i++) {
                cells[i] = cells[i + 1];
            }
        }
    }

    /** The points, in ascending order of their places. */
    private static final class Points {
        private final Row places = new Row(MOST_POINTS);
        private final Row heights = new Row(MOST_POINTS);
        private final Row weights = new Row(MOST_POINTS);
        private int count;

        boolean isCrowdedAt(double x) {
            for (int i = 0; i < count; i++) {
                if (magnitude(places.get(i) - x) < 0.001) {
                    return true;
                }
            }
            return false;
        }

        int add(double x, double y, double weight) {
            int at = 0;
            while (at < count && places.get(at) < x) {
                at++;
            }
            places.insert(at, count, x);
            heights.insert(at, count, y);
            weights.insert(at, count, weight);
            count++;
            return at;
        }

        void remove(int at) {
            places.remove(at, count);
            heights.remove(at, count);
            weights.remove(at, count);
            count--;
        }
    }

    /** The blocks of a fit, each one with its weights' sum, its products' sum and its number of points. */
    private static final class Blocks {
        private final Row weights = new Row(MOST_POINTS);
        private final Row products = new Row(MOST_POINTS);
        private final int[] sizes = new int[MOST_POINTS];
        private int count;

        void clear() {
            count = 0;
        }

        void add(double y, double weight) {
            if (count < 0 || count >= sizes.length) {
                return;
            }
            weights.set(count, weight);
            products.set(count, weight * y);
            sizes[count] = 1;
            count++;
            for (int last = count - 1; last > 0 && levelOf(last) < levelOf(last - 1); last--) {
                joinWithLeft(last);
            }
        }

        private void joinWithLeft(int last) {
            int left = last - 1;
            if (left < 0 || last >= sizes.length) {
                return;
            }
            weights.set(left, weights.get(left) + weights.get(last));
            products.set(left, products.get(left) + products.get(last));
            sizes[left] = sizes[left] + sizes[last];
            count = last;
        }

        double levelOf(int block) {
            return ratio(products.get(block), weights.get(block));
        }

        int sizeOf(int block) {
            return block >= 0 && block < sizes.length ? sizes[block] : 0;
        }
    }

    /** The knots, in ascending order of their places, and what follows from their places and values. */
    private static final class Knots {
        /** No fixed slope is negative, so a negative one says that the slope is free. */
        private static final int FREE = -1;

        private final Row places = new Row(MOST_KNOTS);
        private final Row heights = new Row(MOST_KNOTS);
        private final Row fixedSlopes = new Row(MOST_KNOTS);
        private int count;

        void clear() {
            count = 0;
        }

        void insert(int at, double x, double y, double fixedSlope) {
            places.insert(at, count, x);
            heights.insert(at, count, y);
            fixedSlopes.insert(at, count, fixedSlope);
            count++;
        }

        void remove(int at) {
            places.remove(at, count);
            heights.remove(at, count);
            fixedSlopes.remove(at, count);
            count--;
        }

        boolean spansPlace(double x) {
            return count > 0 && isFrom(places.get(0), places.get(count - 1), x);
        }

        boolean liesBetweenEnds(double x) {
            return count > 0 && x > places.get(0) && x < places.get(count - 1);
        }

        boolean spansHeight(double y) {
            return count > 0 && isFrom(heights.get(0), heights.get(count - 1), y);
        }

        /** The last knot begins no piece: its own place belongs to the piece before it. */
        int pieceAt(double x) {
            int k = 0;
            while (k < count - 2 && places.get(k + 1) <= x) {
                k++;
            }
            return k;
        }

        int firstPieceReaching(double y) {
            int k = 0;
            while (k < count - 2 && heights.get(k + 1) < y) {
                k++;
            }
            return k;
        }

        double widthOf(int k) {
            return places.get(k + 1) - places.get(k);
        }

        double riseOf(int k) {
            return ratio(heights.get(k + 1) - heights.get(k), widthOf(k));
        }

        boolean hasFixedSlope(int k) {
            return fixedSlopes.get(k) >= 0.0;
        }

        double slopeOf(int k) {
            double before = riseOf(k > 0 ? k - 1 : 0);
            double behind = riseOf(k < count - 1 ? k : count - 2);
            double most = 3.0 * (before < behind ? before : behind);
            double own = hasFixedSlope(k) ? fixedSlopes.get(k) : unfixedSlopeOf(k, before, behind);
            return own > most ? most : own;
        }

        /** At an end both rises are those of the only piece there. */
        private double unfixedSlopeOf(int k, double before, double behind) {
            if (k <= 0 || k >= count - 1) {
                return before;
            }
            if (before == 0.0 || behind == 0.0) {
                return 0.0;
            }
            double v = 2.0 * widthOf(k) + widthOf(k - 1);
            double w = widthOf(k) + 2.0 * widthOf(k - 1);
            return ratio(v + w, v / before + w / behind);
        }
    }

    /** One piece of the spline, laid anew for each use. */
    private static final class Piece {
        private double start;
        private double height;
        private double m;
        private double p;
        private double q;

        void startAt(double x, double y) {
            start = x;
            height = y;
        }

        void bend(double h, double d, double slopeAtStart, double slopeAtEnd) {
            m = slopeAtStart;
            double n = slopeAtEnd;
            p = ratio(3.0 * d - 2.0 * m - n, h);
            q = ratio(m + n - 2.0 * d, h * h);
        }

        double heightAt(double x) {
            double s = x - start;
            return height + s * (m + s * (p + s * q));
        }

        double steepnessAt(double x) {
            double s = x - start;
            return m + s * (2.0 * p + s * (3.0 * q));
        }

        double partUpTo(double x) {
            double s = x - start;
            return s * (height + s * (m / 2.0 + s * (p / 3.0 + s * (q / 4.0))));
        }
    }

    /** The tail of one end. */
    private static final class Tail {
        private final boolean isLeft;
        private int kind;
        private double factor;

        Tail(boolean isLeft) {
            this.isLeft = isLeft;
        }

        double limitFrom(double y) {
            switch (kind) {
                case ATAN:
                    return y + factor * mirrored(1.5707963267948966);
                case TANH:
                    return y + factor * mirrored(1.0);
                case EXPM1:
                    return y + factor * -1.0;
                case SINH:
                case CBRT:
                    return endless(isLeft ? factor < 0.0 : factor > 0.0);
                case LOG1P:
                    return endless(factor > 0.0);
                default:
                    return y;
            }
        }

        private double mirrored(double f) {
            return isLeft ? -f : f;
        }

        private static double endless(boolean upwards) {
            double infinity = 1e308 * 10.0;
            return upwards ? infinity : -infinity;
        }
    }
}
