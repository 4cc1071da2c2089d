/** Counts the answers that are not as due, and ends a test. */
final class Due {
    /** So many wrong answers are printed; more are only counted. */
    private static final int MOST_PRINTED = 50;

    private static int checked = 0;
    private static int wrong = 0;

    private Due() {
    }

    static void is(String where, long got, long want) {
        checked++;
        if (got != want) {
            tell(where + " answered " + got + ", due is " + want);
        }
    }

    static void holds(String what, boolean so) {
        checked++;
        if (!so) {
            tell("not so: " + what);
        }
    }

    private static void tell(String fault) {
        wrong++;
        if (wrong <= MOST_PRINTED) {
            System.out.println(fault);
        }
    }

    static int wrong() {
        return wrong;
    }

    static void end() {
        System.out.println(wrong == 0 ? checked + " answers are as due" : wrong + " of " + checked + " answers are not as due");
        if (wrong != 0 || checked == 0) {
            System.exit(1);
        }
    }
}
