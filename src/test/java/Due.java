import java.util.List;

/** Compares answers with those that are due, and ends a test with exit code 1 if one differs. */
final class Due {
    private static final int SHOWN = 40;

    private long compared = 0;
    private long wrong = 0;

    void answer(String call, long got, long want) {
        compared++;
        if (got != want) {
            wrong++;
            if (wrong <= SHOWN) {
                System.out.println(call + " answered " + got + ", due is " + want);
            }
        }
    }

    void holds(String what, boolean is) {
        compared++;
        if (!is) {
            wrong++;
            System.out.println("not so: " + what);
        }
    }

    void same(String what, List<Long> got, List<Long> want) {
        holds(what + ": " + got + " as " + want, got.equals(want));
    }

    void end() {
        System.out.println((compared - wrong) + " passed, " + wrong + " failed");
        if (wrong != 0 || compared == 0) {
            System.exit(1);
        }
    }
}
