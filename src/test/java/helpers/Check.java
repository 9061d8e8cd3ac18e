/** Counts the answers that are not the ones that are due, and ends the test with 1 if there was one. */
final class Check {
    private static int wrong = 0;
    private static int looked = 0;
    private static String sentence = "";

    private Check() {
    }

    static void same(String what, Object got, Object due) {
        looked++;
        if (!String.valueOf(got).equals(String.valueOf(due))) {
            tell(what + " answered " + got + ", due is " + due);
        }
    }

    /** The test of one sentence of the document: what is wrong in it is told with the sentence. */
    static void sentence(String words, Runnable test) {
        int lookedBefore = looked;
        sentence = words + " -- ";
        try {
            test.run();
        } catch (RuntimeException e) {
            tell("threw " + e);
        }
        if (looked == lookedBefore) {
            tell("nothing was looked at");
        }
        sentence = "";
    }

    private static void tell(String what) {
        wrong++;
        System.out.println(sentence + what);
    }

    static boolean allRight() {
        return wrong == 0;
    }

    static void finish() {
        if (looked == 0) {
            System.out.println("nothing was looked at");
        }
        if (wrong > 0 || looked == 0) {
            System.exit(1);
        }
    }
}
