/** Counts and prints the answers that are not the ones due; a test ends with end(). */
final class Check {
    private static int made = 0;
    private static int wrong = 0;

    private Check() {
    }

    static void due(String what, long got, long want) {
        note(got == want, what, String.valueOf(got), String.valueOf(want));
    }

    static void due(String what, boolean got, boolean want) {
        note(got == want, what, String.valueOf(got), String.valueOf(want));
    }

    static void due(String what, String got, String want) {
        note(got.equals(want), what, got, want);
    }

    private static void note(boolean right, String what, String got, String want) {
        made++;
        if (!right) {
            wrong++;
            System.out.println(what + " answered " + got + ", due is " + want);
        }
    }

    /** A test that checks nothing proves nothing, so it fails too. */
    static void end() {
        System.out.println(made + " answers looked at, " + wrong + " not as due");
        if (wrong != 0 || made == 0) {
            System.exit(1);
        }
    }
}
