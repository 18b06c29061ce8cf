import java.util.Arrays;
import java.util.function.LongSupplier;

/** Counts the calls whose answer is not the one that is due. */
final class Check {
    static final Class<? extends RuntimeException> INDEX = IndexOutOfBoundsException.class;
    static final Class<? extends RuntimeException> ARGUMENT = IllegalArgumentException.class;
    static final Class<? extends RuntimeException> STATE = IllegalStateException.class;

    private static int seen = 0;
    private static int wrong = 0;

    private Check() {
    }

    static void count() {
        seen++;
    }

    static void due(long want, LongSupplier call) {
        seen++;
        try {
            long got = call.getAsLong();
            if (got != want) {
                tell("answered " + got + ", due is " + want);
            }
        } catch (RuntimeException e) {
            tell("threw " + e + ", due is " + want);
        }
    }

    static void isSo(boolean is) {
        due(1, () -> is ? 1 : 0);
    }

    static void isNot(boolean is) {
        due(0, () -> is ? 1 : 0);
    }

    /** The exception must be exactly this one: a subclass would be one that the machine throws. */
    static void refused(Class<? extends RuntimeException> kind, LongSupplier call) {
        seen++;
        try {
            tell("answered " + call.getAsLong() + ", due is " + kind.getSimpleName());
        } catch (RuntimeException e) {
            if (e.getClass() != kind) {
                tell("threw " + e + ", due is " + kind.getSimpleName());
            }
        }
    }

    static void refusedAsIndex(LongSupplier call) {
        refused(INDEX, call);
    }

    static void refusedAsArgument(LongSupplier call) {
        refused(ARGUMENT, call);
    }

    static void refusedAsState(LongSupplier call) {
        refused(STATE, call);
    }

    static void tell(String what) {
        wrong++;
        String place = Arrays.stream(Thread.currentThread().getStackTrace())
                .filter(f -> f.getClassName().endsWith("Test"))
                .findFirst().map(f -> f.getFileName() + ":" + f.getLineNumber()).orElse("?");
        System.out.println(place + ": " + what);
    }

    static void end() {
        System.out.println(seen + " checks, " + wrong + " wrong");
        if (wrong != 0) {
            System.exit(1);
        }
    }
}
