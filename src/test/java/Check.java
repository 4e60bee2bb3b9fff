/** Counts the answers of one test program, and prints those that are not as due. */
final class Check {
    private int right;
    private int wrong;
    private String test = "";

    interface Call {
        long answer();
    }

    /** The name of the test that follows stands ahead of each answer that is not as due. */
    void begin(String name) {
        test = name + ": ";
    }

    /** An answer that is due. */
    void same(String what, long got, long due) {
        if (got == due) {
            right++;
            return;
        }
        wrong++;
        if (wrong <= 40) {
            System.out.println(test + what + " answered " + got + ", due is " + due);
        }
    }

    void yes(String what, boolean got) {
        same(what, got ? 1 : 0, 1);
    }

    void no(String what, boolean got) {
        same(what, got ? 1 : 0, 0);
    }

    /** An exception of just that class is due. */
    void refuses(String what, Class<? extends RuntimeException> due, Call call) {
        String got = "nothing thrown";
        try {
            call.answer();
        } catch (RuntimeException e) {
            got = e.getClass().getSimpleName();
        }
        boolean is = got.equals(due.getSimpleName());
        if (!is) {
            System.out.println(test + what + ": " + got + ", due is " + due.getSimpleName());
        }
        same(what, is ? 1 : 0, 1);
    }

    void badArgument(String what, Call call) {
        refuses(what, IllegalArgumentException.class, call);
    }

    void badIndex(String what, Call call) {
        refuses(what, IndexOutOfBoundsException.class, call);
    }

    void badState(String what, Call call) {
        refuses(what, IllegalStateException.class, call);
    }

    void noElement(String what, Call call) {
        refuses(what, java.util.NoSuchElementException.class, call);
    }

    static int number(boolean answer) {
        return answer ? 1 : 0;
    }

    void end(String name) {
        System.out.println(name + ": " + right + " answers right, " + wrong + " wrong");
        System.exit(wrong == 0 ? 0 : 1);
    }
}
