/** Holds answers against those that are due, and ends the test by what came of it. */
final class Due {
    private final String test;
    private int held = 0;
    private int wrong = 0;

    Due(String test) {
        this.test = test;
    }

    void is(String call, long got, long want) {
        held++;
        if (got == want) return;
        wrong++;
        System.out.println(test + ": " + call + " answered " + got + ", due is " + want);
    }

    void holds(String what, boolean yes) {
        is(what, yes ? 1 : 0, 1);
    }

    int wrong() {
        return wrong;
    }

    void end() {
        System.out.println(test + ": " + held + " answers, " + wrong + " not as due");
        if (wrong != 0 || held == 0) System.exit(1);
    }
}
