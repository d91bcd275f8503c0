/** Compares answers with the ones that are due, and counts the wrong ones. */
final class Due {
    private static String sentence = "";
    private static int tests = 0;
    private static int checked = 0;
    private static int wrong = 0;

    private Due() {
    }

    /** A test of its own for one sentence of the document, which a failure then names. */
    static void test(String ofSentence, Runnable calls) {
        sentence = ofSentence;
        tests++;
        calls.run();
        sentence = "";
    }

    static void is(String call, long got, long want) {
        checked++;
        if (got != want) {
            tell(call + " answered " + got + ", due is " + want);
        }
    }

    static void same(String what, Object got, Object want) {
        checked++;
        if (!want.equals(got)) {
            tell(what + " was " + got + ", due is " + want);
        }
    }

    private static void tell(String fault) {
        wrong++;
        System.out.println(sentence.isEmpty() ? fault : "[" + sentence + "] " + fault);
    }

    static void end() {
        System.out.println((tests > 0 ? tests + " tests, " : "") + checked + " answers looked at, "
            + wrong + " not as due");
        if (wrong != 0) {
            System.exit(1);
        }
    }
}
