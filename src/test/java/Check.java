/** Counts and prints the answers that are not the ones due; shared by the project's tests. */
final class Check {
    private static final int PRINTED_AT_MOST = 50;
    private static int asked = 0;
    private static int wrong = 0;

    private Check() {
    }

    static void due(String what, long got, long want) {
        asked++;
        if (got != want) {
            fault(what + " answered " + got + ", due is " + want);
        }
    }

    static void holds(String what, boolean holds) {
        asked++;
        if (!holds) {
            fault(what + " does not hold");
        }
    }

    static void finish() {
        System.out.println(asked + " checks, " + wrong + " wrong");
        if (wrong != 0 || asked == 0) {
            System.exit(1);
        }
    }

    private static void fault(String text) {
        wrong++;
        if (wrong <= PRINTED_AT_MOST) {
            System.out.println(text);
        }
    }
}
