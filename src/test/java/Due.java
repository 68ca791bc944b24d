import java.util.function.LongSupplier;
import java.util.function.Supplier;

/** Counts and prints the calls whose answer is not the one that is due. */
final class Due {
    private static final int PRINTED_AT_MOST = 50;
    private int checks = 0;
    private int wrong = 0;

    // The call is told by a supplier, because millions of calls are right and need no words.
    void same(Supplier<String> call, long got, long want) {
        checks++;
        if (got != want) {
            tell(call.get(), Long.toString(got), Long.toString(want));
        }
    }

    void same(String call, long got, long want) {
        same(() -> call, got, want);
    }

    void same(String call, String got, String want) {
        checks++;
        if (!got.equals(want)) {
            tell(call, got, want);
        }
    }

    /** The answer of a call, or the name of the exception that it throws. */
    static String outcome(LongSupplier made) {
        try {
            return Long.toString(made.getAsLong());
        } catch (RuntimeException e) {
            return e.getClass().getSimpleName();
        }
    }

    /** Ends the program, with exit code 1 if an answer was wrong. */
    void end() {
        System.out.println(checks + " answers checked, " + wrong + " wrong");
        if (wrong != 0 || checks == 0) {
            System.exit(1);
        }
    }

    private void tell(String call, String got, String want) {
        wrong++;
        if (wrong <= PRINTED_AT_MOST) {
            System.out.println(call + " answered " + got + ", due is " + want);
        }
    }
}
