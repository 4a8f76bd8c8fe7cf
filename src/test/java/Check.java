/** Counts and prints the answers that are not the ones that are due. */
final class Check {
    private static int made = 0;
    private static int wrong = 0;

    private Check() {
    }

    static void due(String call, long got, long want) {
        made++;
        if (got != want) {
            wrong++;
            // A broken class fails in thousands of places; the first ones tell enough.
            if (wrong <= 20) {
                System.out.println(call + " answered " + got + ", due is " + want);
            }
        }
    }

    static void holds(String what, boolean held) {
        due(what, held ? 1 : 0, 1);
    }

    static void end() {
        if (wrong != 0) {
            System.out.println(wrong + " of " + made + " checks failed");
            System.exit(1);
        }
        System.out.println("all " + made + " checks are as due");
    }
}
