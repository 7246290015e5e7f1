import java.util.List;

/** Counts what a test finds wrong, and ends the test with exit code 1 if there was anything. */
final class Expect {
    interface Call {
        void run();
    }

    static final Class<IllegalStateException> STATE = IllegalStateException.class;
    static final Class<IllegalArgumentException> ARGUMENT = IllegalArgumentException.class;
    static final Class<IndexOutOfBoundsException> INDEX = IndexOutOfBoundsException.class;
    static final Class<UnsupportedOperationException> UNSUPPORTED =
            UnsupportedOperationException.class;

    private static int wrong = 0;
    private static int checked = 0;
    private static String about = "";

    private Expect() {
    }

    /** Names the promise that the following expectations are about. */
    static void about(String what) {
        about = what;
    }

    static void same(String call, int got, int due) {
        checked++;
        if (got != due) {
            tell(call + " answered " + got + ", due is " + due);
        }
    }

    static void yes(String call, boolean got) {
        checked++;
        if (!got) {
            tell(call + " answered false, due is true");
        }
    }

    static void no(String call, boolean got) {
        checked++;
        if (got) {
            tell(call + " answered true, due is false");
        }
    }

    static void fails(String call, Class<? extends RuntimeException> due, Call made) {
        checked++;
        try {
            made.run();
        } catch (RuntimeException e) {
            if (e.getClass() != due) {
                tell(call + " threw " + e.getClass().getName() + ", due is " + due.getName());
            }
            return;
        }
        tell(call + " threw nothing, due is " + due.getName());
    }

    /** Of two rows of answers the first that differs is told. */
    static void alike(String call, List<String> due, List<String> got) {
        checked++;
        for (int i = 0; i < due.size() && i < got.size(); i++) {
            if (!due.get(i).equals(got.get(i))) {
                tell(call + " changed something: " + got.get(i) + ", without it " + due.get(i));
                return;
            }
        }
        if (due.size() != got.size()) {
            tell(call + " changed something: how many answers there are");
        }
    }

    static void tell(String what) {
        wrong++;
        System.out.println(about + ": " + what);
    }

    static void end() {
        System.out.println(checked + " expectations, " + wrong + " not met");
        if (wrong != 0) {
            System.exit(1);
        }
    }
}
