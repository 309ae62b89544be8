import java.util.function.IntUnaryOperator;

/** Compares answers with those that are due, and ends a test with exit code 1 if one differed. */
final class Answers {
    private static final int INVALID_ARGUMENT = -1;
    private int compared = 0;
    private int wrong = 0;

    void due(String call, int want, int got) {
        compared++;
        if (got != want) {
            wrong++;
            System.out.println(call + " answered " + got + ", due is " + want);
        }
    }

    void dueTrue(String what, boolean holds) {
        due(what, 1, holds ? 1 : 0);
    }

    /** The argument n of the call is taken from the least to the greatest, and refused next to them and far off. */
    void dueFromTo(String call, int least, int greatest, IntUnaryOperator want, IntUnaryOperator called) {
        for (int n = least; n <= greatest; n++) {
            due(call + " with n = " + n, want.applyAsInt(n), called.applyAsInt(n));
        }
        dueRefused(call, called, least - 1, least - 2, greatest + 1, greatest + 2);
        dueRefused(call, called, Integer.MIN_VALUE, Integer.MIN_VALUE + least, Integer.MAX_VALUE);
        dueRefused(call, called, least - 128, greatest + 128, least + 256, least - 256, least + 65536, least - 65536);
    }

    void dueRefused(String call, IntUnaryOperator called, int... arguments) {
        for (int n : arguments) {
            due(call + " with n = " + n, INVALID_ARGUMENT, called.applyAsInt(n));
        }
    }

    int wrong() {
        return wrong;
    }

    void end() {
        System.out.println(compared + " answers compared, " + wrong + " not as due");
        if (wrong > 0 || compared == 0) {
            System.exit(1);
        }
    }
}
