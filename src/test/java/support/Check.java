/** Counts the answers that are not as due, and prints them. */
final class Check {
    /** A call that may throw. */
    interface Call {
        Object make();
    }

    private static final int MOST_PRINTED = 40;
    private static int made;
    private static int wrong;

    private Check() {}

    static void same(String what, long due, long got) {
        made++;
        if (due != got) {
            complain(what + " answered " + got + ", due is " + due);
        }
    }

    static void same(String what, String due, String got) {
        made++;
        if (!due.equals(got)) {
            complain(what + " answered\n  " + got + ", due is\n  " + due);
        }
    }

    /** For calls that should answer, but might throw. */
    static void answers(String what, long due, Call call) {
        String got;
        try {
            got = call.make().toString();
        } catch (RuntimeException e) {
            got = e.toString();
        }
        same(what, Long.toString(due), got);
    }

    static void isTrue(String what, boolean holds) {
        made++;
        if (!holds) {
            complain(what + " does not hold");
        }
    }

    static void throwsExactly(Class<?> due, String what, Call call) {
        made++;
        String got;
        try {
            got = "answered " + call.make();
        } catch (RuntimeException e) {
            if (e.getClass() == due) {
                return;
            }
            got = "threw " + e;
        }
        complain(what + " " + got + ", due is " + due.getSimpleName());
    }

    static void bad(String what, Call call) {
        throwsExactly(IllegalArgumentException.class, what, call);
    }

    static void outside(String what, Call call) {
        throwsExactly(IndexOutOfBoundsException.class, what, call);
    }

    private static void complain(String text) {
        wrong++;
        if (wrong <= MOST_PRINTED) {
            System.out.println(text);
        }
    }

    /** To be called last: ends the program with exit code 1 if anything was wrong. */
    static void end() {
        System.out.println(wrong == 0 ? made + " checks hold" : wrong + " of " + made + " checks fail");
        if (wrong != 0) {
            System.exit(1);
        }
    }
}
