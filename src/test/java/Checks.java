/** Counts checks, tells the ones that fail, and ends a test's program with its exit code. */
final class Checks {
    interface Call {
        void make();
    }

    private final String name;
    private int passed;
    private int failed;

    Checks(String name) {
        this.name = name;
    }

    private void count(boolean right, String what, Object got, Object want) {
        if (right) {
            passed++;
        } else {
            failed++;
            System.out.println(name + ": " + what + " answered " + got + ", due is " + want);
        }
    }

    void isTrue(String what, boolean right) {
        count(right, what, right, true);
    }

    void same(String what, long got, long want) {
        count(got == want, what, got, want);
    }

    void same(String what, boolean got, boolean want) {
        count(got == want, what, got, want);
    }

    void same(String what, String got, String want) {
        count(got.equals(want), what, got, want);
    }

    /** To the last bit, so that 0.0 and -0.0 differ. */
    void same(String what, double got, double want) {
        count(Double.doubleToLongBits(got) == Double.doubleToLongBits(want), what, got, want);
    }

    /** The class itself and none below it: a machine's own exception is not the one that is due. */
    void refused(String what, Class<? extends RuntimeException> due, Call call) {
        Object got = "nothing thrown";
        try {
            call.make();
        } catch (RuntimeException e) {
            got = e.getClass();
        }
        count(got == due, what, got, due);
    }

    void end() {
        System.out.println(name + ": " + passed + " passed, " + failed + " failed");
        if (failed > 0 || passed == 0) {
            System.exit(1);
        }
    }
}
