/** Counts and prints the answers that are not the ones due; a test ends with end(). */
final class Check {
    private static final int SHOWN = 60;

    private static String sentence = "";
    private static int sentences = 0;
    private static int madeHere = 0;
    private static int made = 0;
    private static int wrong = 0;

    private Check() {
    }

    /** What is checked from here on, until the next sentence, is what this sentence of the document says. */
    static void sentence(String quote) {
        closeSentence();
        sentence = quote;
        sentences++;
        madeHere = 0;
    }

    static void due(String what, long got, long want) {
        note(got == want, what, String.valueOf(got), String.valueOf(want));
    }

    static void due(String what, boolean got, boolean want) {
        note(got == want, what, String.valueOf(got), String.valueOf(want));
    }

    /** Of long texts only the place where they part is shown. */
    static void due(String what, String got, String want) {
        int same = 0;
        while (same < got.length() && same < want.length() && got.charAt(same) == want.charAt(same)) {
            same++;
        }
        int from = Math.max(0, same - SHOWN / 2);
        note(got.equals(want), what, shown(got, from), shown(want, from));
    }

    private static String shown(String text, int from) {
        return "'" + text.substring(Math.min(from, text.length()), Math.min(from + SHOWN, text.length())) + "'";
    }

    private static void note(boolean right, String what, String got, String want) {
        made++;
        madeHere++;
        if (!right) {
            wrong++;
            String where = sentence.isEmpty() ? "" : "\"" + sentence + "\": ";
            System.out.println(where + what + " answered " + got + ", due is " + want);
        }
    }

    /** A sentence, or a test, that checks nothing proves nothing, so it fails too. */
    private static void closeSentence() {
        if (!sentence.isEmpty() && madeHere == 0) {
            wrong++;
            System.out.println("\"" + sentence + "\": nothing was looked at");
        }
    }

    static void end() {
        closeSentence();
        String of = sentences == 0 ? "" : sentences + " sentences, ";
        System.out.println(of + made + " answers looked at, " + wrong + " not as due");
        if (wrong != 0 || made == 0) {
            System.exit(1);
        }
    }
}
