import java.util.Arrays;

/** Compares answers with those that are due, and ends a test with exit code 1 if one differed. */
final class Check {
    private int right = 0;
    private int wrong = 0;

    void due(String call, long got, long want) {
        count(got == want, call, Long.toString(got), Long.toString(want));
    }

    void due(String call, boolean got, boolean want) {
        count(got == want, call, Boolean.toString(got), Boolean.toString(want));
    }

    /** Tells 0.0 from -0.0. */
    void due(String call, double got, double want) {
        count(Double.compare(got, want) == 0, call, Double.toString(got), Double.toString(want));
    }

    void due(String call, String got, String want) {
        count(got.equals(want), call, got, want);
    }

    void fails(String call, Class<? extends RuntimeException> want, Runnable run) {
        String got = "nothing thrown";
        try {
            run.run();
        } catch (RuntimeException e) {
            got = e.getClass().getSimpleName();
        }
        count(got.equals(want.getSimpleName()), call, got, want.getSimpleName());
    }

    /** What it throws all the same is a fault, but not the end of the tests after it. */
    void answers(String call, Runnable run) {
        String got = "nothing thrown";
        try {
            run.run();
        } catch (RuntimeException e) {
            got = e + " at " + Arrays.toString(e.getStackTrace());
        }
        due(call, got, "nothing thrown");
    }

    void noIndex(String call, Runnable run) {
        fails(call, IndexOutOfBoundsException.class, run);
    }

    void badArgument(String call, Runnable run) {
        fails(call, IllegalArgumentException.class, run);
    }

    void badState(String call, Runnable run) {
        fails(call, IllegalStateException.class, run);
    }

    void badArithmetic(String call, Runnable run) {
        fails(call, ArithmeticException.class, run);
    }

    void noElement(String call, Runnable run) {
        fails(call, java.util.NoSuchElementException.class, run);
    }

    int answers() {
        return right + wrong;
    }

    int faults() {
        return wrong;
    }

    void finish() {
        System.out.println(right + " answers as due, " + wrong + " not");
        if (wrong != 0 || right == 0) {
            System.exit(1);
        }
    }

    private void count(boolean isRight, String call, String got, String want) {
        if (isRight) {
            right++;
        } else {
            wrong++;
            System.out.println(call + " answered " + got + ", due is " + want);
        }
    }
}
