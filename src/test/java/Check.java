/** Counts and prints the answers that are not as due; each test ends by finish(). */
final class Check {
    /** A call that may throw. */
    interface Call {
        void make();
    }

    private static int seen = 0;
    private static int wrong = 0;

    private Check() {}

    static void due(String call, long want, long got) {
        seen++;
        if (got != want) {
            wrong++;
            System.out.println(call + " answered " + got + ", due is " + want);
        }
    }

    static void throwing(String call, Class<? extends RuntimeException> want, Call made) {
        seen++;
        String got = thrownBy(made);
        if (!got.equals(want.getSimpleName())) {
            wrong++;
            System.out.println(call + " threw " + got + ", due is " + want.getSimpleName());
        }
    }

    static String thrownBy(Call made) {
        try {
            made.make();
            return "nothing";
        } catch (RuntimeException e) {
            return e.getClass().getSimpleName();
        }
    }

    static void index(String call, Call made) {
        throwing(call, IndexOutOfBoundsException.class, made);
    }

    static void argument(String call, Call made) {
        throwing(call, IllegalArgumentException.class, made);
    }

    static void state(String call, Call made) {
        throwing(call, IllegalStateException.class, made);
    }

    static void finish() {
        System.out.println(seen + " checks, " + wrong + " wrong");
        if (wrong != 0 || seen == 0) {
            System.exit(1);
        }
    }
}
