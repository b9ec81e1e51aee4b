/** What the tests share: comparing an answer with the one that is due, and the count of wrong ones. */
final class Check {
    private static int checks = 0;
    private static int wrong = 0;

    private Check() {
    }

    interface Call {
        long answer();
    }

    static void same(String what, long got, long due) {
        checks++;
        if (got != due) {
            wrong++;
            System.out.println(what + " answered " + got + ", due is " + due);
        }
    }

    static void same(String what, String got, String due) {
        checks++;
        if (!got.equals(due)) {
            wrong++;
            System.out.println(what + " answered " + got + ", due is " + due);
        }
    }

    /** The answer as a text, or the name of the exception. */
    static String outcome(Call call) {
        try {
            return Long.toString(call.answer());
        } catch (RuntimeException e) {
            return e.getClass().getSimpleName();
        }
    }

    static void state(String what, Call call) {
        same(what, outcome(call), "IllegalStateException");
    }

    static void argument(String what, Call call) {
        same(what, outcome(call), "IllegalArgumentException");
    }

    static void index(String what, Call call) {
        same(what, outcome(call), "IndexOutOfBoundsException");
    }

    static int wrong() {
        return wrong;
    }

    static boolean tooManyWrong() {
        return wrong > 40;
    }

    static void finish(String name) {
        System.out.println(name + ": " + checks + " checks, " + wrong + " wrong");
        if (wrong != 0) {
            System.exit(1);
        }
    }
}
