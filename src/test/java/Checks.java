/** Counts what is not as due, for the tests that have a main method. */
final class Checks {
    interface Call {
        Object answer();
    }

    private final String test;
    private int made = 0;
    private int wrong = 0;

    Checks(String test) {
        this.test = test;
    }

    /** What a call answers, or the exception's full name behind "throws ". */
    static Object outcome(Call call) {
        try {
            return call.answer();
        } catch (RuntimeException e) {
            return "throws " + e.getClass().getName();
        }
    }

    void due(String what, Object want, Call call) {
        due(what, want, outcome(call));
    }

    void due(String what, Object want, Object got) {
        made++;
        if (!want.equals(got)) {
            wrong++;
            if (wrong <= 50) {
                System.out.println(test + ": " + what + " answered " + got + ", due is " + want);
            }
        }
    }

    boolean allDue() {
        return wrong == 0;
    }

    void end() {
        System.out.println(test + ": " + made + " answers looked at, " + wrong + " not as due");
        if (wrong != 0) {
            System.exit(1);
        }
    }
}
