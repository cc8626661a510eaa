/** Counts and prints the answers that are not the ones due; a test ends with end(). */
final class Check {
    private static final int SHOWN = 60;

    private static String sentence = "";
    private static int sentences = 0;
    private static int made = 0;
    private static int wrong = 0;

    private Check() {
    }

    /**
     * Runs the checks of what one sentence of the document, quoted, says. A throw
     * is a wrong answer too, and the sentences after it are still looked at.
     */
    static void sentence(String quote, Runnable checks) {
        sentence = "\"" + quote + "\": ";
        sentences++;
        int before = made;
        try {
            checks.run();
        } catch (RuntimeException e) {
            wrong("a call threw " + e);
            e.printStackTrace();
        }
        if (made == before) {
            wrong("nothing was looked at");
        }
        sentence = "";
    }

    static void due(String what, long got, long want) {
        made++;
        if (got != want) {
            wrong(what + " answered " + got + ", due is " + want);
        }
    }

    static void due(String what, boolean got, boolean want) {
        made++;
        if (got != want) {
            wrong(what + " answered " + got + ", due is " + want);
        }
    }

    /** Of long texts only the place where they part is shown. */
    static void due(String what, String got, String want) {
        made++;
        if (!got.equals(want)) {
            int from = Math.max(0, firstDifference(got, want) - SHOWN / 2);
            wrong(what + " answered " + shown(got, from) + ", due is " + shown(want, from));
        }
    }

    private static int firstDifference(String a, String b) {
        int same = 0;
        while (same < a.length() && same < b.length() && a.charAt(same) == b.charAt(same)) {
            same++;
        }
        return same;
    }

    private static String shown(String text, int from) {
        return "'" + text.substring(Math.min(from, text.length()), Math.min(from + SHOWN, text.length())) + "'";
    }

    private static void wrong(String what) {
        wrong++;
        System.out.println(sentence + what);
    }

    /** A test that looked at nothing proves nothing, so it fails too. */
    static void end() {
        String of = sentences == 0 ? "" : sentences + " sentences, ";
        System.out.println(of + made + " answers looked at, " + wrong + " not as due");
        if (wrong != 0 || made == 0) {
            System.exit(1);
        }
    }
}
