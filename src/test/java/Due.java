/** Counts the answers that are not as due and prints them. */
final class Due {
    private static String sentence = "";
    private static int asked = 0;
    private static int wrong = 0;

    private Due() {
    }

    /** What follows tests this sentence of the document. */
    static void sentence(String text) {
        sentence = text + " | ";
    }

    static void is(String what, long got, long want) {
        asked++;
        if (got != want) {
            wrong++;
            System.out.println(sentence + what + " answered " + got + ", due is " + want);
        }
    }

    static void is(String what, boolean got, boolean want) {
        is(what, got ? 1 : 0, want ? 1 : 0);
    }

    static int wrongSoFar() {
        return wrong;
    }

    static void end() {
        System.out.println(asked + " answers, " + wrong + " not as due");
        if (wrong != 0) {
            System.exit(1);
        }
    }
}
