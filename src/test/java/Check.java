/** Compares answers with those that are due, and ends a test with exit code 1 if one was wrong. */
final class Check {
    static final String BOUNDS = "IndexOutOfBoundsException";
    static final String STATE = "IllegalStateException";
    static final String ARGUMENT = "IllegalArgumentException";
    static final String UNSUPPORTED = "UnsupportedOperationException";

    private static int wrong = 0;
    private static String sentence = "";

    interface Call {
        void run();
    }

    /** The words of the document that the answers behind this call are held against. */
    static void sentence(String words) {
        sentence = "'" + words + "': ";
    }

    static void same(String what, long got, long due) {
        if (got != due) {
            report(what + " answered " + got + ", due is " + due);
        }
    }

    static void holds(String what, boolean held) {
        if (!held) {
            report(what + " does not hold");
        }
    }

    /** The call throws just this exception, and nothing that can be seen of the volume changes. */
    static void refused(String what, String due, GuardVolume volume, Call call) {
        String before = Look.all(volume);
        String got = "nothing";
        try {
            call.run();
        } catch (RuntimeException e) {
            got = e.getClass().getSimpleName();
        }
        if (!got.equals(due)) {
            report(what + " threw " + got + ", due is " + due);
        }
        if (!Look.all(volume).equals(before)) {
            report(what + " changed something though it threw");
        }
    }

    static void row(String what, GuardVolume volume, int drive, int slot, String due) {
        String got = Look.row(volume, drive, slot);
        if (!got.equals(due)) {
            report(what + " is the row " + got + ", due is " + due);
        }
    }

    static void finding(String what, GuardVolume volume, int k, int... due) {
        for (int i = 0; i < 4; i++) {
            same(what + ": finding(" + k + ", " + i + ")", volume.finding(k, i), due[i]);
        }
    }

    static void report(String text) {
        wrong++;
        System.out.println(sentence + text);
    }

    static boolean anyWrong() {
        return wrong != 0;
    }

    static void end() {
        System.out.println(wrong == 0 ? "all answers are as due" : wrong + " answers are not as due");
        if (wrong != 0) {
            System.exit(1);
        }
    }
}
