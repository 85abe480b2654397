/** Counts and prints the answers that are not the ones that are due. */
final class Due {
    private static final int MOST_TOLD = 40;
    private static int wrong = 0;
    private static int asked = 0;

    private Due() { }

    static void is(String call, double got, double want) {
        asked++;
        if (got != want) {
            tell(call + " answered " + got + ", due is " + want);
        }
    }

    static void yes(String what, boolean holds) {
        asked++;
        if (!holds) {
            tell("does not hold: " + what);
        }
    }

    private static void tell(String what) {
        wrong++;
        if (wrong <= MOST_TOLD) {
            System.out.println(what);
        }
    }

    static void end(String test) {
        System.out.println(test + ": " + asked + " answers, " + wrong + " not as due");
        if (wrong != 0) {
            System.exit(1);
        }
    }
}
