/** Compares answers with those that are due, tells the wrong ones, and ends a test with the right exit code. */
final class Check {
    private static final int TOLD = 40;
    private final String test;
    private int calls = 0;
    private int wrong = 0;

    Check(String test) {
        this.test = test;
    }

    void due(String call, long got, long want) {
        calls++;
        if (got != want) {
            tell(call + " answered " + got + ", due is " + want);
        }
    }

    void holds(String what, boolean is) {
        calls++;
        if (!is) {
            tell("does not hold: " + what);
        }
    }

    private void tell(String text) {
        wrong++;
        if (wrong <= TOLD) {
            System.out.println(test + ": " + text);
        }
    }

    int wrong() {
        return wrong;
    }

    void end() {
        System.out.println(test + ": " + calls + " checks, " + wrong + " wrong");
        if (wrong != 0 || calls == 0) {
            System.exit(1);
        }
    }
}
