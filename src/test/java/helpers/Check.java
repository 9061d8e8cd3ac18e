/** Counts the answers that are not the ones that are due, and ends the test with 1 if there was one. */
final class Check {
    private static int wrong = 0;
    private static int looked = 0;

    private Check() {
    }

    static void same(String what, Object got, Object due) {
        looked++;
        if (!String.valueOf(got).equals(String.valueOf(due))) {
            wrong++;
            System.out.println(what + " answered " + got + ", due is " + due);
        }
    }

    static boolean allRight() {
        return wrong == 0;
    }

    static void finish() {
        if (looked == 0) {
            System.out.println("nothing was looked at");
        }
        if (wrong > 0 || looked == 0) {
            System.exit(1);
        }
    }
}
