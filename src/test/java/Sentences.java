import java.io.IOException;
import java.nio.file.Files;
import java.nio.file.Path;
import java.util.BitSet;

/**
 * Holds the quotes of the tests against the document: each must stand in it word for
 * word, and together they must leave no word of it out. (The face is FaceTest's.)
 */
final class Sentences {
    private static final Path DOCUMENT = Path.of("../shared/DOC.md");
    private static final int PROMISES = 39;
    /** Under these numbers stand the words ahead of the promises, and those behind them. */
    static final int WHAT_IT_IS = 0, NOT_PROMISED = PROMISES + 1;
    private static final String TERMS = "## Terms", BEHIND_TERMS = "Ahead of the calls `toDay`";
    private static final String BEHIND_PROMISES = "## Not promised";
    /** Words that only tell where one is: they promise nothing. */
    private static final String[] HEADINGS = {"==== 1", "==== 2", "==== 3", "==== 4", "==== 5", "```text", "```", "CALENDARS:"};

    private Sentences() { }

    static void areTested() throws IOException {
        if (!Files.isReadable(DOCUMENT)) {
            System.out.println("no document at " + DOCUMENT + ": which of its sentences are tested was not looked at");
            return;
        }
        String document = Files.readString(DOCUMENT);
        String terms = plain(between(document, TERMS, BEHIND_TERMS));
        for (String heading : HEADINGS) {
            terms = plain(terms.replace(heading, " "));
        }
        BitSet told = new BitSet();
        for (Due.Quote quote : Due.quotes()) {
            boolean inTerms = cover(terms, quote.words(), told);
            boolean inPromise = plain(promise(document, quote.promise())).contains(quote.words());
            Due.yes("promise " + quote.promise() + " or the terms say '" + quote.words() + "'", inTerms || inPromise);
        }
        leavesNothing("the terms", terms, told);
        for (int promise = WHAT_IT_IS; promise <= NOT_PROMISED; promise++) {
            leavesNothingOf(promise, plain(promise(document, promise)));
        }
    }

    private static void leavesNothingOf(int promise, String text) {
        BitSet told = new BitSet();
        for (Due.Quote quote : Due.quotes()) {
            if (quote.promise() == promise) {
                cover(text, quote.words(), told);
            }
        }
        leavesNothing("promise " + promise, text, told);
    }

    /** A promise's words behind its heading and the call's form. */
    private static String promise(String document, int promise) {
        if (promise == WHAT_IT_IS) {
            return between(document, "## What it is", "## The public face");
        }
        if (promise == NOT_PROMISED) {
            return document.substring(document.indexOf(BEHIND_PROMISES) + BEHIND_PROMISES.length());
        }
        String next = promise == PROMISES ? BEHIND_PROMISES : "## Promise " + (promise + 1) + ":";
        String section = between(document, "## Promise " + promise + ":", next);
        return section.substring(section.indexOf("`: ") + 3);
    }

    private static String between(String document, String from, String to) {
        int start = document.indexOf(from) + from.length();
        return document.substring(start, document.indexOf(to, start));
    }

    private static String plain(String text) {
        return text.replaceAll("\\s+", " ").trim();
    }

    private static boolean cover(String text, String words, BitSet told) {
        int at = text.indexOf(words);
        boolean found = at >= 0;
        while (at >= 0) {
            told.set(at, at + words.length());
            at = text.indexOf(words, at + 1);
        }
        return found;
    }

    private static void leavesNothing(String where, String text, BitSet told) {
        int at = told.nextClearBit(0);
        while (at < text.length()) {
            int end = told.nextSetBit(at);
            String left = text.substring(at, end < 0 ? text.length() : end);
            boolean words = left.chars().anyMatch(Character::isLetterOrDigit);
            Due.yes(where + ": a test of '" + left.trim() + "'", !words);
            at = told.nextClearBit(at + left.length());
        }
    }
}
