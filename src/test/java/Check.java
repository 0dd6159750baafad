/** Compares answers with those that are due, tells the wrong ones, and ends a test with the right exit code. */
final class Check {
    private final String test;
    private final int told;
    private int calls = 0;
    private int wrong = 0;

    Check(String test) {
        this(test, 40);
    }

    /** told: how many wrong answers are told at most. */
    Check(String test, int told) {
        this.test = test;
        this.told = told;
    }

    void due(String call, long got, long want) {
        calls++;
        if (got != want) {
            tell(call + " answered " + got + ", due is " + want);
        }
    }

    void holds(String what, boolean is) {
        calls++;
        if (!is) {
            tell("does not hold: " + what);
        }
    }

    private void tell(String text) {
        wrong++;
        if (wrong <= told) {
            System.out.println(test + ": " + text);
        }
    }

    int wrong() {
        return wrong;
    }

    void end() {
        System.out.println(test + ": " + calls + " checks, " + wrong + " wrong");
        if (wrong != 0 || calls == 0) {
            System.exit(1);
        }
    }
}
