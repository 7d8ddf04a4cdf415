import java.util.List;

/** Counts and prints the answers that are not as due; each test ends by finish(). */
final class Check {
    /** A call that may throw. */
    interface Call {
        void make();
    }

    private static int seen = 0;
    private static int wrong = 0;
    private static int sentences = 0;
    /** The sentence of the document that is tested, for what is printed. */
    private static String sentence = "";

    private Check() {}

    /** What follows tests this sentence of the document. */
    static void sentence(String where, String text) {
        sentences++;
        sentence = "[" + where + ": " + text + "] ";
    }

    static void due(String call, long want, long got) {
        seen++;
        if (got != want) {
            wrong++;
            System.out.println(sentence + call + " answered " + got + ", due is " + want);
        }
    }

    static void throwing(String call, Class<? extends RuntimeException> want, Call made) {
        seen++;
        String got = thrownBy(made);
        if (!got.equals(want.getSimpleName())) {
            wrong++;
            System.out.println(sentence + call + " threw " + got + ", due is " + want.getSimpleName());
        }
    }

    /** The call throws nothing. */
    static void taken(String call, Call made) {
        seen++;
        String got = thrownBy(made);
        if (!got.equals("nothing")) {
            wrong++;
            System.out.println(sentence + call + " threw " + got + ", due is an answer");
        }
    }

    /** The call throws that exception, and all is as if it had not been made. */
    static void refused(String call, Class<? extends RuntimeException> want, Story story, Story.Step step) {
        throwing(call, want, () -> step.on(story.told()));
        same(call + " changes nothing", story, story.then(t -> thrownBy(() -> step.on(t))));
    }

    static void noIndex(String call, Story story, Story.Step step) {
        refused(call, IndexOutOfBoundsException.class, story, step);
    }

    static void noArgument(String call, Story story, Story.Step step) {
        refused(call, IllegalArgumentException.class, story, step);
    }

    static void noState(String call, Story story, Story.Step step) {
        refused(call, IllegalStateException.class, story, step);
    }

    /** Two stories come to the same state. */
    static void same(String what, Story one, Story other) {
        List<String> want = Look.at(one);
        List<String> got = Look.at(other);
        seen++;
        for (int k = 0; k < Math.max(want.size(), got.size()); k++) {
            String due = k < want.size() ? want.get(k) : "nothing";
            String is = k < got.size() ? got.get(k) : "nothing";
            if (!due.equals(is)) {
                wrong++;
                System.out.println(sentence + what + ": " + is + ", due is " + due);
                return;
            }
        }
    }

    static String thrownBy(Call made) {
        try {
            made.make();
            return "nothing";
        } catch (RuntimeException e) {
            return e.getClass().getSimpleName();
        }
    }

    static void index(String call, Call made) {
        throwing(call, IndexOutOfBoundsException.class, made);
    }

    static void argument(String call, Call made) {
        throwing(call, IllegalArgumentException.class, made);
    }

    static void state(String call, Call made) {
        throwing(call, IllegalStateException.class, made);
    }

    static void finish() {
        String read = sentences == 0 ? "" : sentences + " sentences, ";
        System.out.println(read + seen + " checks, " + wrong + " wrong");
        if (wrong != 0 || seen == 0) {
            System.exit(1);
        }
    }
}
