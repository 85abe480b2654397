import java.util.ArrayList;
import java.util.List;

/** Counts and prints the answers that are not the ones that are due. */
final class Due {
    private static final int MOST_TOLD = 40;
    private static int wrong = 0;
    private static int asked = 0;
    private static int askedBefore = 0;
    private static String heading = "";
    private static final List<Quote> QUOTES = new ArrayList<>();

    /** Words of the document that a test stands for, and the promise to which they belong. */
    record Quote(int promise, String words) { }

    private Due() { }

    /** What is asked from here on belongs to these words of the document, for that promise. */
    static void sentence(int promise, String... words) {
        leaveSentence();
        for (String of : words) {
            QUOTES.add(new Quote(promise, of));
        }
        heading = "promise " + promise + " '" + words[0] + "': ";
        askedBefore = asked;
    }

    /** A sentence with no question behind it is not tested. */
    private static void leaveSentence() {
        if (!heading.isEmpty() && asked == askedBefore) {
            tell("nothing was asked");
        }
        heading = "";
    }

    static List<Quote> quotes() {
        leaveSentence();
        return QUOTES;
    }

    static void is(String call, double got, double want) {
        asked++;
        if (got != want) {
            tell(call + " answered " + got + ", due is " + want);
        }
    }

    static void yes(String what, boolean holds) {
        asked++;
        if (!holds) {
            tell("does not hold: " + what);
        }
    }

    private static void tell(String what) {
        wrong++;
        if (wrong <= MOST_TOLD) {
            System.out.println(heading + what);
        }
    }

    static void end(String test) {
        leaveSentence();
        System.out.println(test + ": " + asked + " answers, " + wrong + " not as due");
        if (wrong != 0) {
            System.exit(1);
        }
    }
}
