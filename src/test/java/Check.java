/** Counts the answers that are not as due, and ends a test with exit code 1 if there was one. */
final class Check {
    /** A call of the face, so that what it throws can be told. */
    interface Call {
        long answer();
    }

    private static int wrong = 0;
    private static int all = 0;

    private Check() {
    }

    static void same(String what, long got, long due) {
        all++;
        if (got != due) {
            wrong++;
            System.out.println(what + " answered " + got + ", due is " + due);
        }
    }

    static void same(String what, String got, String due) {
        all++;
        if (!got.equals(due)) {
            wrong++;
            System.out.println(what + " answered\n  " + got + "\ndue is\n  " + due);
        }
    }

    /** What the call answers, or the name of what it throws. */
    static String told(Call call) {
        try {
            return Long.toString(call.answer());
        } catch (RuntimeException e) {
            return "throws." + e.getClass().getSimpleName();
        }
    }

    static void isThrown(String what, Class<? extends RuntimeException> due, Call call) {
        same(what, told(call), "throws." + due.getSimpleName());
    }

    static void end() {
        System.out.println(wrong == 0 ? all + " answers are as due" : wrong + " of " + all + " answers are not as due");
        if (wrong != 0) {
            System.exit(1);
        }
    }
}
