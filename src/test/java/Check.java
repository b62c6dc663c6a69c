/** Counts what is not as due, and ends a test with exit code 1 if there was any. */
final class Check {
    private static final int TOLD = 40;
    private final String name;
    private int looked;
    private int wrong;

    Check(String name) {
        this.name = name;
    }

    void that(String what, boolean holds) {
        looked++;
        if (!holds) {
            wrong++;
            if (wrong <= TOLD) {
                System.out.println(name + ": " + what + " does not hold");
            }
        }
    }

    void due(String what, long got, long want) {
        looked++;
        if (got != want) {
            wrong++;
            if (wrong <= TOLD) {
                System.out.println(name + ": " + what + " answered " + got + ", due is " + want);
            }
        }
    }

    int wrong() {
        return wrong;
    }

    void end() {
        System.out.println(name + ": " + looked + " looked at, " + wrong + " wrong");
        if (wrong != 0 || looked == 0) {
            System.exit(1);
        }
    }
}
