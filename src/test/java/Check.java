/** Counts the answers that are not as due, and says them. */
final class Check {
    private static final int MOST_SAID = 40;

    private final String name;
    private int made, wrong;

    Check(String name) {
        this.name = name;
    }

    void due(String call, long got, long want) {
        made++;
        if (got == want) return;
        wrong++;
        if (wrong <= MOST_SAID) System.out.println(name + ": " + call + " answered " + got + ", due is " + want);
    }

    void so(String what, boolean is) {
        due(what, is ? 1 : 0, 1);
    }

    int wrong() {
        return wrong;
    }

    /** Ends the test: with exit code 1 if an answer was not as due, or if nothing was asked. */
    void end() {
        System.out.println(name + ": " + made + " checks, " + wrong + " wrong");
        if (wrong != 0 || made == 0) System.exit(1);
    }
}
