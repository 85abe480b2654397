import java.io.IOException;
import java.nio.file.Files;
import java.nio.file.Path;
import java.util.List;
import java.util.stream.Collectors;
import java.util.stream.Stream;

/** What the document says around its promises: what the house is, for how long, and what is free. */
final class EdgesOfUse {
    private static final int BAD = AlmanacHouse.BAD, NONE = AlmanacHouse.NONE, FULL = AlmanacHouse.FULL;
    private static final int FIXED = 0, MOVABLE = 2;
    private static final Path TESTS = Path.of("src/test/java");

    private EdgesOfUse() { }

    static void run() throws IOException {
        rowOfDays();
        wordsAndFeasts();
        moonAndDaysOff();
        pagesAndBooks();
        rowsByAllCalls();
        takenBackByAllCalls();
        loadedByAllCalls();
        pagesByAllCalls();
        questionsByAllCalls();
        nothingFreeIsUsed();
    }

    private static void rowOfDays() {
        Due.sentence(Sentences.WHAT_IT_IS, "An almanac house: one row of days, and eight calendars over it,",
            "with leap days, tabled moons, a counted moon year, weeks, a round, and a town's own months;");
        Twins x = new Twins().tell("row", 730000, 50);
        SlowHouse slow = new SlowHouse();
        for (int c = 0; c <= 6; c++) {
            for (int what = 0; what <= 4; what++) {
                x.due(slow.fromDay(c, 730007, what), "fromDay", c, 730007, what);
            }
        }
        x.due(1, "fromDay", 7, 730007, 0).due(1, "fromDay", 7, 730007, 1).due(8, "fromDay", 7, 730007, 2);
        x.refused(BAD, "fromDay", 8, 730007, 0).refused(BAD, "fromDay", -1, 730007, 0).alike();
    }

    private static void wordsAndFeasts() {
        Due.sentence(Sentences.WHAT_IT_IS, "words for months;", "feasts by rules, moved by rank;");
        Twins x = new Twins().due(1, "name", 0, 12, 77L).due(12, "monthNamed", 0, 77L);
        x.tell("feast", FIXED, 12, 25, 0, 1).tell("feast", FIXED, 12, 25, 0, 9).due(1, "moved", 0, 2000).due(0, "moved", 1, 2000);
        x.due(Dates.dayOf(2000, 12, 26), "feastDay", 0, 2000).alike();
    }

    private static void moonAndDaysOff() {
        Due.sentence(Sentences.WHAT_IT_IS, "the moon exactly and as estimated in doubles;", "days off of parishes with bridges;");
        Twins x = new Twins().due(20316, "age", 1).due(1.1848898307068148, "estimate", 1);
        x.tell("parish", 0b0000101, true).tell("parish", 0b0000101, false).due(1, "isOff", 0, 8).due(0, "isOff", 1, 8).alike();
    }

    private static void pagesAndBooks() {
        Due.sentence(Sentences.WHAT_IT_IS, "pages, and books that prove themselves;", "what was laid down is taken back.");
        Twins x = new Twins().tell("parish", 96, false).due(7, "page", 0, 0, 2001, 3).due('2', "sign", 0, 0);
        x.due(373, "book", 0, 2001).due(1, "verify").tell("spoil", 100, 1).refused(NONE, "verify");
        x.due(0, "undo").due(0, "count", 3).refused(BAD, "book", 0, 2001).alike();
    }

    // each of these runs uses one object for all of its 512 calls, and looks at the last answers of it

    private static void rowsByAllCalls() {
        Due.sentence(Sentences.WHAT_IT_IS,
            "An object is used for at most 512 calls after it has been made; what later calls answer is free.");
        AlmanacHouse x = new AlmanacHouse();
        for (int i = 1; i <= 500; i++) {
            Due.is("call " + i, x.row(200 * (i - 1), 200), i);
        }
        Due.is("call 501", x.row(100000, 1), FULL);
        for (int i = 502; i <= 511; i++) {
            Due.is("call " + i, x.fromDay(7, 200 * (i - 12), 1), (i - 12) % 10 + 1);
        }
        Due.is("call 512", x.toDay(7, 50, 10, 200), 99999);
    }

    private static void takenBackByAllCalls() {
        Due.sentence(Sentences.WHAT_IT_IS, "at most 512 calls");
        AlmanacHouse x = new AlmanacHouse();
        for (int i = 0; i < 512; i += 2) {
            Due.is("call " + (i + 1), x.name(i % 8, 1 + i % 53, i + 1), 1);
            Due.is("call " + (i + 2), x.undo(), 0);
        }
        // 412 of them, of which the latest hundred can be taken back
        AlmanacHouse y = new AlmanacHouse();
        for (int i = 1; i <= 412; i++) {
            Due.is("call " + i, y.row(i - 1, 1), i);
        }
        for (int i = 413; i <= 512; i++) {
            Due.is("call " + i, y.undo(), 512 - i);
        }
    }

    private static void loadedByAllCalls() {
        Due.sentence(Sentences.WHAT_IT_IS, "at most 512 calls");
        AlmanacHouse x = new AlmanacHouse();
        for (int i = 1; i <= 300; i++) {
            Due.is("call " + i, x.load(i, 4), 4 * i);
        }
        Due.is("call 301", x.load(1, 1), FULL);
        Due.is("call 302", x.wipe(), 1200);
        for (int i = 303; i <= 511; i++) {
            Due.is("call " + i, x.load(i, 1), i - 302);
        }
        Due.is("call 512", x.byteAt(208), 511 & 255);
    }

    private static void pagesByAllCalls() {
        Due.sentence(Sentences.WHAT_IT_IS, "at most 512 calls");
        AlmanacHouse x = new AlmanacHouse();
        Due.is("call 1", x.parish(96, true), 0);
        Due.is("call 2", x.feast(MOVABLE, 0, 0, 0, 5), 0);
        for (int i = 3; i <= 508; i++) {
            int used = x.page(0, 0, 1500 + i, 1 + i % 12);
            Due.yes("call " + i + " answered " + used, used >= 6 && used <= 9);
        }
        Due.is("call 509", x.book(0, 2001), 373);
        Due.is("call 510", x.verify(), 1);
        Due.is("call 511", x.sign(0, 3), '8');
        Due.is("call 512", x.byteAt(1), 2001 & 255);
    }

    private static void questionsByAllCalls() {
        Due.sentence(Sentences.WHAT_IT_IS, "at most 512 calls");
        AlmanacHouse x = new AlmanacHouse();
        for (int i = 0; i < 60; i++) {
            Due.is("call " + (i + 1), x.feast(FIXED, 7, 1, 0, 1 + i % 9), i);
        }
        for (int i = 61; i <= 512; i++) {
            // seven of RANK 1 to 6 each, six of 7 to 9: the greatest first, the lesser number first
            int feast = i % 60;
            int ahead = 0;
            for (int other = 0; other < 60; other++) {
                ahead += other % 9 > feast % 9 || other % 9 == feast % 9 && other < feast ? 1 : 0;
            }
            Due.is("call " + i, x.moved(feast, 4000 - i), ahead);
        }
    }

    private static void nothingFreeIsUsed() throws IOException {
        Due.sentence(Sentences.NOT_PROMISED, "How the state is held inside the object is free, as are the speed of each call,",
            "the text of toString and the behaviour of equals and hashCode.",
            "Use of one object from several threads at once is not promised to be safe.",
            "Nothing is promised beyond the answers and state changes described above, and nothing about an object after its 512th call.");
        Due.is("calls for which a test uses an object", House.MOST_CALLS, 512);
        if (!Files.isDirectory(TESTS)) {
            System.out.println("no tests at " + TESTS + ": whether they use what is free was not looked at");
            return;
        }
        List<Path> sources;
        try (Stream<Path> files = Files.list(TESTS)) {
            sources = files.filter(f -> f.toString().endsWith(".java")).collect(Collectors.toList());
        }
        for (Path path : sources) {
            String text = Files.readString(path);
            for (String word : new String[] {"nano" + "Time", "current" + "TimeMillis", "new " + "Thread", "parallel" + "()"}) {
                Due.yes(path + " uses neither time nor threads: " + word, !text.contains(word));
            }
        }
    }
}
