/** Counts what is not as due, prints it, and ends the program with 1 if there was any. */
final class Check {
    interface Call {
        Object answer();
    }

    interface Act {
        void happen();
    }

    private static int wrong = 0;
    private static int made = 0;
    private static String subject = "";

    private Check() {
    }

    /** Stands before each fault that is told from now on. */
    static void about(String newSubject) {
        subject = newSubject.isEmpty() ? "" : newSubject + "\n    ";
    }

    static int count() {
        return made;
    }

    static void due(Object want, String what, Call call) {
        Object got;
        try {
            got = call.answer();
        } catch (RuntimeException e) {
            got = "throws." + e.getClass().getSimpleName();
        }
        is(want, what, got);
    }

    static void is(Object want, String what, Object got) {
        made++;
        if (!want.equals(got)) {
            wrong++;
            System.out.println(subject + what + " answered " + got + ", due is " + want);
        }
    }

    static void happens(String what, Act act) {
        due("nothing", what, () -> {
            act.happen();
            return "nothing";
        });
    }

    /** The very class counts: the machine's own exceptions are subclasses of the due ones. */
    static void index(String what, Call call) {
        due("throws.IndexOutOfBoundsException", what, call);
    }

    static void argument(String what, Call call) {
        due("throws.IllegalArgumentException", what, call);
    }

    static void state(String what, Call call) {
        due("throws.IllegalStateException", what, call);
    }

    static void end(String name) {
        if (wrong > 0) {
            System.out.println(name + ": " + wrong + " of " + made + " answers are not as due");
            System.exit(1);
        }
        System.out.println(name + ": all " + made + " answers are as due");
    }
}
