/** Holds answers against those that are due, and ends the test by what came of it. */
final class Due {
    private final String test;
    private String sentence = "";
    private int held = 0;
    private int wrong = 0;

    Due(String test) {
        this.test = test;
    }

    /** The words of the document that the answers from here on are held against. */
    void sentence(String words) {
        sentence = " [" + words + "]";
    }

    void is(String call, long got, long want) {
        held++;
        if (got == want) return;
        wrong++;
        System.out.println(test + sentence + ": " + call + " answered " + got + ", due is " + want);
    }

    void holds(String what, boolean yes) {
        is(what, yes ? 1 : 0, 1);
    }

    /** Two tellings of a whole object, as Told gives them. */
    void same(String what, String got, String want) {
        held++;
        if (got.equals(want)) return;
        wrong++;
        System.out.println(test + sentence + ": " + what + " left " + got + ", due is " + want);
    }

    int wrong() {
        return wrong;
    }

    void end() {
        System.out.println(test + ": " + held + " answers, " + wrong + " not as due");
        if (wrong != 0 || held == 0) System.exit(1);
    }
}
