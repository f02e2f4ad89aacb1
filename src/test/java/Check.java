/** What the tests share: calls are compared with the answers that are due, and texts are typed. */
final class Check {
    static final String ARGUMENT = "IllegalArgumentException";
    static final String STATE = "IllegalStateException";
    static final String INDEX = "IndexOutOfBoundsException";
    static final String UNSUPPORTED = "UnsupportedOperationException";

    private static int wrong = 0;
    private static int done = 0;

    private Check() {
    }

    interface Call {
        long answer();
    }

    interface Act {
        void act();
    }

    /** The answer of a call as a text, or the plain name of the exception that it throws. */
    static String answerOf(Call call) {
        try {
            return Long.toString(call.answer());
        } catch (RuntimeException e) {
            return e.getClass().getSimpleName();
        }
    }

    static void same(String what, String got, String due) {
        done++;
        if (!got.equals(due)) {
            wrong++;
            if (wrong <= 40) {
                System.out.println(what + " answered " + got + ", due is " + due);
            }
        }
    }

    static void due(String what, long due, Call call) {
        same(what, answerOf(call), Long.toString(due));
    }

    static void dueThrow(String what, String exception, Call call) {
        same(what, answerOf(call), exception);
    }

    static void dueThrow(String what, String exception, Act act) {
        same(what, answerOf(() -> {
            act.act();
            return 0;
        }), exception);
    }

    /** A call that answers something, whatever it is. */
    static void answers(String what, Call call) {
        String got = answerOf(call);
        same(what, got.endsWith("Exception") ? got : "an answer", "an answer");
    }

    /** Types a text, eight bytes a call where there are so many. */
    static void type(RuleTables x, String text) {
        for (int from = 0; from < text.length(); from += 8) {
            int n = Math.min(8, text.length() - from);
            x.type(packed(text, from, n), n);
        }
    }

    static long packed(String text, int from, int n) {
        long bytes = 0;
        for (int i = 0; i < n; i++) {
            bytes = bytes << 8 | text.charAt(from + i) & 255;
        }
        return bytes;
    }

    static int read(RuleTables x, String text) {
        type(x, text);
        return x.read();
    }

    /** A new object that has read a text. */
    static RuleTables table(String text) {
        RuleTables x = new RuleTables();
        read(x, text);
        return x;
    }

    /** A new object reads a text: what the table is. */
    static void verdict(String what, int due, String text) {
        due(what + ": read() of " + text, due, () -> read(new RuleTables(), text));
    }

    /** A new object reads a text with a fault. */
    static void faulty(String what, int code, int place, String text) {
        RuleTables x = new RuleTables();
        due(what + ": read() of " + text, -1 - place, () -> read(x, text));
        due(what + ": fault() after " + text, code, () -> x.fault());
        due(what + ": the tape after " + text, 0, () -> x.count(7));
        due(what + ": conditions after " + text, 0, () -> x.count(0));
    }

    static void end() {
        System.out.println(wrong == 0 ? done + " answers are as due" : wrong + " of " + done + " answers are not as due");
        if (wrong != 0 || done == 0) {
            System.exit(1);
        }
    }
}
