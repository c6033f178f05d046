/** Counts the answers that are not as due and tells them. */
final class Check {
    private static int wrong = 0;

    private Check() {
    }

    interface Call {
        void run();
    }

    static void that(String what, long got, long due) {
        if (got != due) {
            tell(what, String.valueOf(got), String.valueOf(due));
        }
    }

    /** Doubles are compared to the last bit: the order of sums and products is promised. */
    static void that(String what, double got, double due) {
        if (Double.compare(got, due) != 0) {
            tell(what, String.valueOf(got), String.valueOf(due));
        }
    }

    static void that(String what, String got, String due) {
        if (!got.equals(due)) {
            tell(what, got, due);
        }
    }

    /** What a test leans on: if it does not hold, the test shows nothing. */
    static void holds(String what, boolean held) {
        if (!held) {
            tell(what, "no", "yes");
        }
    }

    /** The very class is asked for: an exception of a class below it is not the one that is due. */
    static void throwing(String what, Class<?> due, Call call) {
        String got = "nothing";
        try {
            call.run();
        } catch (RuntimeException e) {
            got = e.getClass().getName();
        }
        if (!got.equals(due.getName())) {
            tell(what + " throws", got, due.getName());
        }
    }

    private static void tell(String what, String got, String due) {
        wrong++;
        System.out.println(what + " answered " + got + ", due is " + due);
    }

    static void end() {
        if (wrong != 0) {
            System.out.println(wrong + " answers are not as due");
            System.exit(1);
        }
    }
}
