/** Counts and prints the calls of a test whose answer is not the one that is due. */
final class Due {
    private final String test;
    private int calls;
    private int wrong;

    Due(String test) {
        this.test = test;
    }

    void is(String call, long got, long want) {
        calls++;
        if (got != want) {
            wrong++;
            System.out.println(test + ": " + call + " answered " + got + ", due is " + want);
        }
    }

    void holds(String what, boolean does) {
        calls++;
        if (!does) {
            wrong++;
            System.out.println(test + ": does not hold: " + what);
        }
    }

    void end() {
        System.out.println(test + ": " + (calls - wrong) + " of " + calls + " are as due");
        if (wrong != 0) {
            System.exit(1);
        }
    }
}
