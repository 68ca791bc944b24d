import java.util.function.LongSupplier;

/** Counts and prints the calls whose answer is not the one that is due. */
final class Due {
    private static final int PRINTED_AT_MOST = 50;
    private int checks = 0;
    private int wrong = 0;

    void same(String call, long got, long want) {
        judge(got == want, call, Long.toString(got), Long.toString(want));
    }

    void same(String call, String got, String want) {
        judge(got.equals(want), call, got, want);
    }

    void refused(String call, Class<? extends RuntimeException> want, LongSupplier made) {
        String got;
        try {
            got = Long.toString(made.getAsLong());
        } catch (RuntimeException e) {
            got = e.getClass().getName();
        }
        judge(got.equals(want.getName()), call, got, want.getName());
    }

    /** Ends the program, with exit code 1 if an answer was wrong. */
    void end() {
        System.out.println(checks + " answers checked, " + wrong + " wrong");
        if (wrong != 0 || checks == 0) {
            System.exit(1);
        }
    }

    private void judge(boolean right, String call, String got, String want) {
        checks++;
        if (right) {
            return;
        }
        wrong++;
        if (wrong <= PRINTED_AT_MOST) {
            System.out.println(call + " answered " + got + ", due is " + want);
        }
    }
}
