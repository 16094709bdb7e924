/** Counts answers that are as due and those that are not, and tells the latter. */
public final class Check {
    private static int passed = 0;
    private static int failed = 0;

    private Check() {
    }

    public static void due(String call, long got, long want) {
        if (got == want) {
            passed++;
        } else {
            failed++;
            if (failed <= 40) {
                System.out.println(call + " answered " + got + ", due is " + want);
            }
        }
    }

    public static void holds(String what, boolean so) {
        due(what, so ? 1 : 0, 1);
    }

    public static int failures() {
        return failed;
    }

    /** Ends the program: with 1 if something was not as due, or nothing was looked at. */
    public static void end() {
        System.out.println("checks: " + passed + " as due, " + failed + " not");
        System.exit(failed == 0 && passed > 0 ? 0 : 1);
    }
}
