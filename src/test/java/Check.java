/** Counts the answers that are not as due; every test of the project ends with finish(). */
final class Check {
    private static int calls = 0;
    private static int wrong = 0;

    private Check() {
    }

    static void due(String call, long got, long want) {
        calls++;
        if (got != want) {
            wrong++;
            System.out.println(call + " answered " + got + ", due is " + want);
        }
    }

    static boolean allAsDue() {
        return wrong == 0;
    }

    static void finish() {
        System.out.println(calls + " answers, " + wrong + " not as due");
        if (wrong != 0 || calls == 0) {
            System.exit(1);
        }
    }
}
