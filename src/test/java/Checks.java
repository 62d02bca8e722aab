/** Counts what is not as it is due, and tells it. */
final class Checks {
    private static final int LONG = 200;
    private static int made = 0;
    private static int wrong = 0;

    interface Call {
        Object run();
    }

    private Checks() {
    }

    static void answers(String call, Object due, Call made) {
        String got;
        try {
            got = String.valueOf(made.run());
        } catch (RuntimeException e) {
            got = "throws " + e.getClass().getSimpleName();
        }
        same(call, String.valueOf(due), got);
    }

    static void fails(String call, Class<? extends RuntimeException> due, Call made) {
        answers(call, "throws " + due.getSimpleName(), made);
    }

    static void same(String what, Object due, Object got) {
        made++;
        if (!due.equals(got)) {
            wrong++;
            System.out.println(what + " answered " + part(got, due) + ", due is "
                    + part(due, got));
        }
    }

    /** A text, or of a long one the part where it begins to differ from the other one. */
    private static String part(Object text, Object other) {
        String whole = String.valueOf(text);
        if (whole.length() < LONG) {
            return whole;
        }
        String second = String.valueOf(other);
        int same = 0;
        while (same < Math.min(whole.length(), second.length())
                && whole.charAt(same) == second.charAt(same)) {
            same++;
        }
        return "[from " + same + " on] "
                + whole.substring(same, Math.min(whole.length(), same + LONG));
    }

    /** Ends the program, with 1 if anything was wrong. */
    static void end() {
        System.out.println(made + " checks, " + wrong + " wrong");
        System.exit(wrong == 0 ? 0 : 1);
    }
}
