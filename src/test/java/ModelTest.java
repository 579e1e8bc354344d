/** Long runs of mixed calls, each answer compared with that of the model. */
public final class ModelTest {
    private static final int RUNS = 3000;
    /** A run's last calls look at all that is left: 40 places, 60 values, both limits and more. */
    private static final int MIXED = 380;
    /** The style of the runs that begin with values near the smallest ones that a double has. */
    private static final int TINY = 7;

    private static final Checks checks = new Checks("ModelTest");

    private interface Answer {
        String give();
    }

    private final Model model = new Model();
    private final MonotoneSpline spline = new MonotoneSpline();
    private final int run;
    private final int style;
    /** Few knots are taken away, so that there are 60 in the end. */
    private final boolean isFilling;
    private long state;

    private ModelTest(int run) {
        this.run = run;
        style = run % 8;
        isFilling = run % 3 == 0 || style == TINY;
        state = run * 0x9E3779B97F4A7C15L + 1;
    }

    /** The same numbers in every run of the test. */
    private int pick(int bound) {
        state += 0x9E3779B97F4A7C15L;
        long z = (state ^ (state >>> 30)) * 0xBF58476D1CE4E5B9L;
        z = (z ^ (z >>> 27)) * 0x94D049BB133111EBL;
        return (int) (((z ^ (z >>> 31)) >>> 33) % bound);
    }

    private double share() {
        return pick(1 << 30) / (double) (1 << 30);
    }

    private double odd() {
        double[] odd = {
            Double.NaN, Double.POSITIVE_INFINITY, Double.NEGATIVE_INFINITY, 0.0, -0.0, 1e-7, -1e-7, 9.99e-7, 1e-6,
            -1e-6, -9.99e-7, 1000000.0, -1000000.0, Math.nextUp(1000000.0), Math.nextDown(-1000000.0), 1e-300, 1e300,
            Double.MIN_VALUE, -Double.MIN_VALUE, Double.MAX_VALUE, 0.001, 1000.0, 0.5, 1.0, -1.0, 2.0,
        };
        return odd[pick(odd.length)];
    }

    private double plain() {
        switch (style) {
            case 0:
                return pick(41) / 4.0 - 5.0;
            case 1:
                return share() * 2e6 - 1e6;
            case 2:
                return share() * 0.06 - 0.03;
            case 3:
                return pick(21) * 0.001 + pick(2) * 1000.0;
            case 4:
                return pick(40) * 0.00025;
            default:
                return share() * 10.0 - 5.0;
        }
    }

    private double knotNumber(boolean place) {
        int count = model.knots.size();
        if (count == 0) {
            return plain();
        }
        return place ? model.place(pick(count)) : model.height(pick(count));
    }

    private double onSpline() {
        if (pick(12) == 0) {
            return odd();
        }
        double a = knotNumber(true);
        double b = knotNumber(true);
        switch (pick(8)) {
            case 0:
                return a;
            case 1:
                return a + (pick(5) - 2) * 0.00005;
            case 3:
                return middle();
            case 2:
                return pick(2) == 0 ? Math.nextUp(a) : Math.nextDown(a);
            default:
                return a + share() * (b - a);
        }
    }

    /** Between steep ends a slope is about 0 here, and falls below it by rounding. */
    private double middle() {
        int pieces = model.knots.size() - 1;
        if (pieces < 1) {
            return plain();
        }
        int k = pick(pieces);
        return (model.place(k) + model.place(k + 1)) / 2;
    }

    private double height() {
        if (pick(12) == 0) {
            return odd();
        }
        double a = knotNumber(false);
        double b = knotNumber(false);
        switch (pick(5)) {
            case 0:
                return a;
            case 1:
                return pick(2) == 0 ? Math.nextUp(a) : Math.nextDown(a);
            case 2:
                return plain();
            default:
                return a + share() * (b - a);
        }
    }

    private int index(int count) {
        return pick(10) == 0 ? pick(4) - 2 + (pick(2) == 0 ? count : 0) : pick(count + 1);
    }

    private static String answerOf(Answer call) {
        try {
            return call.give();
        } catch (RuntimeException e) {
            return "throws." + e.getClass().getSimpleName();
        }
    }

    private void compare(String call, Answer got, String want) {
        checks.same("run " + run + ": " + call, answerOf(got), want);
    }

    private void pointCall() {
        int i = index(model.points.size());
        double x = pick(15) == 0 ? odd() : plain();
        double y = pick(15) == 0 ? odd() : style == 6 ? 1000000 - share() * 1e-9 : pick(2) == 0 ? plain() : x + plain() / 8;
        double weight = pick(15) == 0 ? odd() : pick(2) == 0 ? 1.0 : 0.001 + share() * (pick(2) == 0 ? 1.0 : 999.0);
        switch (pick(8)) {
            case 0:
                compare("removePoint " + i, () -> "" + spline.removePoint(i), model.removePoint(i));
                break;
            case 1:
                compare("pointPlace " + i, () -> Model.text(spline.pointPlace(i)), model.pointPlace(i));
                break;
            case 2:
                compare("pointCount", () -> "" + spline.pointCount(), model.pointCount());
                break;
            default:
                compare("addPoint " + x + " " + y + " " + weight, () -> "" + spline.addPoint(x, y, weight),
                    model.addPoint(x, y, weight));
                break;
        }
    }

    private void knotCall() {
        int k = index(model.knots.size());
        switch (pick(5)) {
            case 0:
                compare("knotPlace " + k, () -> Model.text(spline.knotPlace(k)), model.knotPlace(k));
                break;
            case 1:
                compare("knotValue " + k, () -> Model.text(spline.knotValue(k)), model.knotValue(k));
                break;
            case 2:
                compare("knotSlope " + k, () -> Model.text(spline.knotSlope(k)), model.knotSlope(k));
                break;
            case 3:
                compare("isFixed " + k, () -> "" + spline.isFixed(k), model.isFixed(k));
                break;
            default:
                compare("knotCount", () -> "" + spline.knotCount(), model.knotCount());
                break;
        }
    }

    private void changeCall() {
        int k = index(model.knots.size());
        double x = onSpline();
        double y = height();
        double slope = pick(4) == 0 ? odd() : share() * (pick(2) == 0 ? 1.0 : 100.0);
        switch (isFilling && pick(4) != 0 ? 4 : pick(8)) {
            case 0:
                compare("removeKnot " + k, () -> "" + spline.removeKnot(k), model.removeKnot(k));
                break;
            case 1:
                compare("setKnotValue " + k + " " + y, () -> Model.text(spline.setKnotValue(k, y)),
                    model.setKnotValue(k, y));
                break;
            case 2:
                compare("fixSlope " + k + " " + slope, () -> Model.text(spline.fixSlope(k, slope)),
                    model.fixSlope(k, slope));
                break;
            case 3:
                compare("freeSlope " + k, () -> "" + spline.freeSlope(k), model.freeSlope(k));
                break;
            default:
                compare("insertKnot " + x, () -> "" + spline.insertKnot(x), model.insertKnot(x));
                break;
        }
    }

    private void splineCall() {
        double x = onSpline();
        double to = onSpline();
        double y = height();
        switch (pick(6)) {
            case 0:
                compare("value " + x, () -> Model.text(spline.value(x)), model.value(x));
                break;
            case 1:
                compare("slope " + x, () -> Model.text(spline.slope(x)), model.slope(x));
                break;
            case 2:
                compare("area " + x + " " + to, () -> Model.text(spline.area(x, to)), model.area(x, to));
                break;
            case 3:
                compare("reach " + y, () -> Model.text(spline.reach(y)), model.reach(y));
                break;
            case 4:
                compare("steepest", () -> "" + spline.steepest(), model.steepest());
                break;
            default:
                compare("flatCount", () -> "" + spline.flatCount(), model.flatCount());
                break;
        }
    }

    private void tailCall() {
        int end = pick(8) == 0 ? pick(5) - 2 : pick(2);
        int kind = pick(8) == 0 ? pick(12) - 3 : pick(7);
        double a = pick(4) == 0 ? odd() : plain();
        if (pick(2) == 0) {
            compare("setTail " + end + " " + kind + " " + a, () -> "" + spline.setTail(end, kind, a),
                model.setTail(end, kind, a));
        } else {
            compare("limit " + end, () -> Model.text(spline.limit(end)), model.limit(end));
        }
    }

    private void add(double x, double y) {
        compare("addPoint " + x + " " + y, () -> "" + spline.addPoint(x, y, 1.0), model.addPoint(x, y, 1.0));
    }

    private void insert(double x) {
        compare("insertKnot " + x, () -> "" + spline.insertKnot(x), model.insertKnot(x));
    }

    private void remove(int k) {
        compare("removeKnot " + k, () -> "" + spline.removeKnot(k), model.removeKnot(k));
    }

    /**
     * A knot close behind the last one with the value 0 has a value that is smaller by far than that
     * of the next one; without the one with the value 0 there is a wide piece again, and so on.
     */
    private int shrink() {
        for (int i = 0; i < 40; i++) {
            add(i * 50000.0 - 1000000.0, i == 39 ? 0.000001 : 0.0);
        }
        compare("fit", () -> "" + spline.fit(), model.fit());
        int rounds = 14 + pick(6);
        for (int i = 0; i < rounds; i++) {
            int zero = 38 - i;
            insert(model.place(zero) + 0.00011);
            remove(zero);
        }
        return 41 + 2 * rounds;
    }

    private void mixedCall() {
        int what = pick(100);
        if (what < (model.knots.isEmpty() ? 60 : 15)) {
            pointCall();
        } else if (what < 65) {
            changeCall();
        } else if (what < 72) {
            knotCall();
        } else if (what < 90) {
            splineCall();
        } else if (what < 95) {
            tailCall();
        } else if (what < 98) {
            compare("digest", () -> "" + spline.digest(), model.digest());
        } else if (!isFilling || model.knots.size() < 10) {
            compare("fit", () -> "" + spline.fit(), model.fit());
        }
    }

    private void lookAtAll() {
        compare("pointCount", () -> "" + spline.pointCount(), model.pointCount());
        compare("knotCount", () -> "" + spline.knotCount(), model.knotCount());
        compare("digest", () -> "" + spline.digest(), model.digest());
        compare("limit 0", () -> Model.text(spline.limit(0)), model.limit(0));
        compare("limit 1", () -> Model.text(spline.limit(1)), model.limit(1));
        for (int i = 0; i <= model.points.size(); i++) {
            int index = i;
            compare("pointPlace " + i, () -> Model.text(spline.pointPlace(index)), model.pointPlace(index));
        }
        for (int i = 0; i <= model.knots.size(); i++) {
            int k = i;
            compare("knotSlope " + i, () -> Model.text(spline.knotSlope(k)), model.knotSlope(k));
        }
    }

    public static void main(String[] args) {
        for (int run = 0; run < RUNS; run++) {
            ModelTest test = new ModelTest(run);
            for (int call = test.style == TINY ? test.shrink() : 0; call < MIXED; call++) {
                test.mixedCall();
            }
            test.lookAtAll();
        }
        checks.end();
    }
}
