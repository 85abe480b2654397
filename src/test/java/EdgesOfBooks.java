/** The edges of promises 32 to 37: BOOKS and THE TAPE. */
final class EdgesOfBooks {
    private static final int MAX = Integer.MAX_VALUE, MIN = Integer.MIN_VALUE;
    private static final int BAD = AlmanacHouse.BAD, NONE = AlmanacHouse.NONE;
    private static final int OUTSIDE = AlmanacHouse.OUTSIDE, FULL = AlmanacHouse.FULL;
    private static final int FIXED = 0, BEHIND = 3;
    private static final long SUM_OF_ZEROS = 0x609B9D62L, SUM_OF_HIGH = 0x990B8782L;

    private EdgesOfBooks() { }

    static void run() {
        booksFollowEachOther();
        bookRefuses();
        bookOutside();
        mostBytesOfBooks();
        refusalsOfBookInOrder();
        headsOfBooks();
        daysOfABook();
        offDaysOfABook();
        feastsOfThatYear();
        fifteenFeastsAtMost();
        sumsOfBooks();
        sumsOfSigns();
        loadedBytes();
        loadRefuses();
        mostLoadedBytes();
        bytesOfTheTape();
        noBytes();
        spoiltBytes();
        spoilRefuses();
        wipedTape();
        verifiedBooks();
        verifiedByDaysAndSum();
        verifyRefuses();
        verifyOfEmptyAndFull();
    }

    /** Bytes on THE TAPE, four by four and then one by one. */
    private static Twins fill(Twins x, int bytes) {
        for (int i = 0; i < bytes / 4; i++) {
            x.tell("load", i, 4);
        }
        for (int i = 0; i < bytes % 4; i++) {
            x.tell("load", i, 1);
        }
        return x;
    }

    /** The SUM in longs, cut to an int's bits at each step. */
    private static long sum(int... bytes) {
        long s = 1;
        for (int b : bytes) {
            long mixed = (s ^ b) & 0xFFFFFFFFL;
            long turned = (mixed << 9 | mixed >> 23) & 0xFFFFFFFFL;
            s = turned * 16777619L & 0xFFFFFFFFL;
        }
        return s;
    }

    private static int[] tape(Twins x, int from, int to) {
        int[] bytes = new int[to - from];
        for (int i = from; i < to; i++) {
            bytes[i - from] = x.ask("byteAt", i);
        }
        return bytes;
    }

    private static void loadBook(Twins x, int year, int... days) {
        int[] bytes = new int[4 + days.length];
        int[] head = {year >> 8 & 255, year & 255, days.length >> 8, days.length & 255};
        System.arraycopy(head, 0, bytes, 0, 4);
        System.arraycopy(days, 0, bytes, 4, days.length);
        // four at a time, as an object is to be used for 512 calls at most
        for (int i = 0; i < bytes.length; i += 4) {
            int many = Math.min(4, bytes.length - i);
            int value = 0;
            for (int b = i; b < i + many; b++) {
                value = value << 8 | bytes[b] & 255;
            }
            x.tell("load", value, many);
        }
        x.tell("load", (int) sum(bytes), 4);
    }

    private static void booksFollowEachOther() {
        Due.sentence(32, "THE BOOK of a YEAR for a PARISH comes behind THE TAPE: how many bytes that has.");
        Twins x = new Twins().tell("parish", 96, false).tell("parish", 0, false);
        x.due(373, "book", 0, 2001).due(373 + 374, "book", 1, 2000).due(373 + 374 + 373, "book", 1, 2001).due(3, "verify");
        x.due(7, "byteAt", 0).due(209, "byteAt", 1).due(7, "byteAt", 373).due(208, "byteAt", 374).due(1120, "count", 6);
        // the two of 2001 are of two PARISHES
        int newYear = Dates.dayOf(2001, 1, 1);
        for (int i = 0; i < 7; i++) {
            int weekday = (newYear + i) % 7;
            x.due(weekday + (weekday >= 5 ? 8 : 0), "byteAt", 4 + i).due(weekday, "byteAt", 747 + 4 + i);
        }
        x.alike();
        x = new Twins().tell("parish", 0, false).tell("load", 0x01020304, 3).due(376, "book", 0, 2001);
        x.due(2, "byteAt", 0).due(4, "byteAt", 2).due(7, "byteAt", 3).due(209, "byteAt", 4).alike();
    }

    private static void bookRefuses() {
        Due.sentence(32, "BAD; NONE: no such YEAR;");
        Twins x = new Twins();
        for (int parish : new int[] {-1, 0, 1, 7, 8, MAX, MIN}) {
            x.refused(BAD, "book", parish, 2000);
        }
        x.tell("parish", 0, false).tell("load", 7, 2);
        for (int parish : new int[] {-1, 1, 7, 8, MAX, MIN}) {
            x.refused(BAD, "book", parish, 2000).refused(BAD, "book", parish, 5001).refused(BAD, "book", parish, 0);
        }
        for (int year : new int[] {-1, 5001, MAX, MIN}) {
            x.refused(NONE, "book", 0, year);
        }
        x.due(375, "book", 0, 1999).alike();
    }

    private static void bookOutside() {
        Due.sentence(32, "OUTSIDE: a day of it;");
        Twins x = new Twins().tell("parish", 0, false);
        for (int year : new int[] {0, 4107, 4108, 4999, 5000}) {
            x.refused(OUTSIDE, "book", 0, year);
        }
        x.due(373, "book", 0, 1).due(746, "book", 0, 4106).due(2, "verify").alike();
    }

    private static void mostBytesOfBooks() {
        Due.sentence(32, "FULL: it would have more than 1200.");
        // 1200 - 373 and 1200 - 374 bytes, and one more
        Twins x = fill(new Twins().tell("parish", 0, false), 827);
        x.refused(FULL, "book", 0, 2000).due(1200, "book", 0, 2001).refused(FULL, "book", 0, 2001).refused(FULL, "book", 0, 2000);
        x.alike();
        x = fill(new Twins().tell("parish", 0, false), 826).due(1200, "book", 0, 2000);
        x.due(1200, "count", 6).refused(FULL, "book", 0, 2001).refused(FULL, "load", 0, 1).alike();
        x = fill(new Twins().tell("parish", 0, false), 828).refused(FULL, "book", 0, 2001).refused(FULL, "book", 0, 2000);
        x.due(829, "load", 5, 1).alike();
        // three BOOKS fit, four do not
        x = new Twins().tell("parish", 0, false).due(374, "book", 0, 4).due(748, "book", 0, 8).due(1122, "book", 0, 12);
        x.refused(FULL, "book", 0, 13).due(3, "verify").due(1122, "wipe").due(373, "book", 0, 13).alike();
    }

    private static void refusalsOfBookInOrder() {
        Due.sentence(32, "Refusals, of several the first one that the call names:", "What is refused changes nothing.");
        Twins x = fill(new Twins().refused(BAD, "book", 0, 5001).tell("parish", 5, true), 1200);
        x.refused(BAD, "book", 1, 5001).refused(BAD, "book", 1, 0).refused(BAD, "book", 1, 2000).refused(NONE, "book", 0, 5001);
        x.refused(NONE, "book", 0, -1).refused(OUTSIDE, "book", 0, 0).refused(OUTSIDE, "book", 0, 4107);
        x.refused(OUTSIDE, "book", 0, 5000).refused(FULL, "book", 0, 4106).refused(FULL, "book", 0, 1).alike();
    }

    private static void headsOfBooks() {
        Due.sentence(32, "A BOOK of a YEAR: the YEAR in two bytes, the upper first; how many days, likewise;");
        for (int year : new int[] {1, 4, 255, 256, 257, 511, 512, 1900, 2000, 4095, 4096, 4106}) {
            int days = java.time.Year.isLeap(year) ? 366 : 365;
            Twins x = new Twins().tell("parish", 0, false).due(days + 8, "book", 0, year);
            x.due(year / 256, "byteAt", 0).due(year % 256, "byteAt", 1).due(1, "byteAt", 2).due(days - 256, "byteAt", 3).alike();
        }
    }

    private static void daysOfABook() {
        Due.sentence(32, "for each day a byte: WEEKDAY,");
        for (int year : new int[] {1, 2000, 2001, 4106}) {
            int days = java.time.Year.isLeap(year) ? 366 : 365;
            int first = Dates.dayOf(year, 1, 1);
            Twins x = new Twins().tell("parish", 0, false).tell("book", 0, year);
            for (int i = 0; i < days; i++) {
                x.due((first + i) % 7, "byteAt", 4 + i);
            }
            x.alike();
        }
    }

    private static void offDaysOfABook() {
        Due.sentence(32, "8 more if it is OFF,");
        Twins x = new Twins().tell("parish", 127, false).tell("book", 0, 2001);
        for (int i = 0; i < 365; i++) {
            x.due((Dates.dayOf(2001, 1, 1) + i) % 7 + 8, "byteAt", 4 + i);
        }
        x.alike();
        // by RULES of FEASTS of the YEARS around, and by bridges over its ends
        x = new Twins().tell("parish", 0, true).tell("feast", FIXED, 12, 30, 0, 0).tell("feast", FIXED, 1, 1, 0, 0);
        x.tell("rule", 0, 0, 0, 3).tell("rule", 0, 1, 0, 0).tell("book", 0, 2001).due(1, "verify");
        int newYear = Dates.dayOf(2001, 1, 1);
        int[] off = {1, 1, 0, 0};
        for (int i = 0; i < 4; i++) {
            int feast = i == 0 ? 16 : 0;
            x.due((newYear + i) % 7 + 8 * off[i] + feast, "byteAt", 4 + i);
        }
        x.due((newYear + 362) % 7, "byteAt", 4 + 362).due((newYear + 363) % 7 + 8 + 16, "byteAt", 4 + 363);
        x.due((newYear + 364) % 7 + 8, "byteAt", 4 + 364).alike();
        x = new Twins().tell("parish", 0, true).tell("feast", FIXED, 12, 30, 0, 0).tell("feast", FIXED, 1, 1, 0, 0);
        x.tell("rule", 0, 0, 0, 0).tell("rule", 0, 1, 0, 0).tell("book", 0, 2001);
        x.due((newYear + 364) % 7 + 8, "byteAt", 4 + 364).due((newYear + 1) % 7, "byteAt", 5).alike();
    }

    private static void feastsOfThatYear() {
        Due.sentence(32, "and 16 for each FEAST (of that YEAR) PLACED on it,");
        Twins x = new Twins().tell("parish", 0, false).tell("feast", FIXED, 12, 31, 0, 9).tell("feast", FIXED, 12, 31, 0, 8);
        x.tell("feast", FIXED, 1, 1, 0, 0).tell("feast", BEHIND, 2, -1, 0, 0).tell("feast", FIXED, 5, 5, 0, 3);
        x.tell("feast", FIXED, 5, 5, 0, 2).tell("feast", FIXED, 5, 6, 0, 0);
        int newYear = Dates.dayOf(2001, 1, 1);
        // FEAST 1 of 2000 lies on 1 1 2001, FEAST 3 of 2002 on 31 12 2001
        x.due(newYear, "feastDay", 1, 2000).due(newYear + 364, "feastDay", 3, 2002).tell("book", 0, 2001);
        x.due(newYear % 7 + 16, "byteAt", 4).due((newYear + 364) % 7 + 16, "byteAt", 4 + 364);
        x.due((newYear + 123) % 7, "byteAt", 4 + 123).due((newYear + 124) % 7 + 16, "byteAt", 4 + 124);
        x.due((newYear + 125) % 7 + 32, "byteAt", 4 + 125).due((newYear + 126) % 7, "byteAt", 4 + 126).alike();
    }

    private static void fifteenFeastsAtMost() {
        Due.sentence(32, "15 at most;");
        Twins x = new Twins().tell("parish", 127, false);
        int[] many = {14, 15, 16, 15};
        for (int i = 0; i < many.length; i++) {
            for (int k = 0; k < many[i]; k++) {
                x.tell("feast", FIXED, 1, 1 + i, 0, 0);
            }
        }
        x.tell("book", 0, 2001).due(60, "count", 2);
        int newYear = Dates.dayOf(2001, 1, 1);
        for (int i = 0; i < many.length; i++) {
            x.due((newYear + i) % 7 + 8 + 16 * Math.min(15, many[i]), "byteAt", 4 + i);
        }
        x.alike();
        x = new Twins().tell("parish", 0, false);
        for (int k = 0; k < 60; k++) {
            x.tell("feast", FIXED, 1, 1, 0, 0);
        }
        x.tell("book", 0, 2001).due(newYear % 7 + 240, "byteAt", 4).due((newYear + 1) % 7, "byteAt", 5).due(1, "verify").alike();
    }

    private static void sumsOfBooks() {
        Due.sentence(32, "four bytes of the SUM, the highest first: s, 1 at first, becomes for each byte ahead ((s xor it), its bits turned"
            + " left by 9) times 0x01000193 (as ints).");
        Twins x = new Twins().tell("parish", 96, true).tell("feast", FIXED, 1, 1, 0, 0).tell("rule", 0, 0, 1, 1);
        int start = 0;
        for (int year : new int[] {1, 2000, 4106}) {
            int end = x.ask("count", 6) + (year == 2000 ? 374 : 373);
            x.due(end, "book", 0, year);
            long sum = sum(tape(x, start, end - 4));
            for (int i = 0; i < 4; i++) {
                x.due(sum >> 24 - 8 * i & 255, "byteAt", end - 4 + i);
            }
            start = end;
        }
        x.alike();
    }

    /** By hand: of no byte 1; of a byte 0 that is turned to 512 and multiplied. */
    private static void sumsOfSigns() {
        Due.sentence(32, "s, 1 at first,");
        Due.is("the SUM of no byte", sum(), 1);
        Due.is("the SUM of a byte 0", sum(0), 512L * 16777619 & 0xFFFFFFFFL);
        Due.is("the SUM of a byte 1", sum(1), 0);
        Due.is("the SUM of 1 and 1", sum(1, 1), 512L * 16777619 & 0xFFFFFFFFL);
        // another language's ints, of bytes 0 0 0 0 and 255 255 0 0
        Due.is("the SUM of four 0", sum(0, 0, 0, 0), SUM_OF_ZEROS);
        Due.is("the SUM of 255 255 0 0", sum(255, 255, 0, 0), SUM_OF_HIGH);
        Twins x = new Twins().tell("load", 0, 4).tell("load", (int) SUM_OF_ZEROS, 4).due(1, "verify");
        x.tell("load", 0xFFFF0000, 4).tell("load", (int) SUM_OF_HIGH, 4).due(2, "verify").alike();
    }

    private static void loadedBytes() {
        Due.sentence(33, "The n (1 .. 4) lowest bytes of v, the highest of these first, come behind THE TAPE: how many it has.");
        Twins x = new Twins().due(1, "load", 0x89ABCDEF, 1).due(3, "load", 0x89ABCDEF, 2).due(6, "load", 0x89ABCDEF, 3);
        x.due(10, "load", 0x89ABCDEF, 4).due(11, "load", -1, 1).due(15, "load", -1, 4).due(19, "load", MIN, 4).due(23, "load", MAX, 4);
        x.due(25, "load", MIN, 2).due(26, "load", 256, 1).due(27, "load", 255, 1);
        int[] due = {0xEF, 0xCD, 0xEF, 0xAB, 0xCD, 0xEF, 0x89, 0xAB, 0xCD, 0xEF, 255, 255, 255, 255, 255, 128, 0, 0, 0,
            127, 255, 255, 255, 0, 0, 0, 255};
        for (int i = 0; i < due.length; i++) {
            x.due(due[i], "byteAt", i);
        }
        x.refused(NONE, "byteAt", due.length).alike();
    }

    private static void loadRefuses() {
        Due.sentence(33, "BAD;");
        Twins x = new Twins().tell("load", 77, 1);
        for (int n : new int[] {0, 5, -1, 8, MAX, MIN}) {
            x.refused(BAD, "load", 0, n).refused(BAD, "load", MAX, n).refused(BAD, "load", MIN, n);
        }
        x.due(2, "load", 1, 1).due(6, "load", 1, 4).alike();
        // ahead of FULL
        fill(new Twins(), 1200).refused(BAD, "load", 0, 0).refused(BAD, "load", 0, 5).refused(BAD, "load", 0, MAX).alike();
    }

    private static void mostLoadedBytes() {
        Due.sentence(33, "FULL: 1200.");
        for (int room = 0; room <= 4; room++) {
            Twins x = fill(new Twins(), 1200 - room);
            for (int n = room + 1; n <= 4; n++) {
                x.refused(FULL, "load", -1, n);
            }
            if (room > 0) {
                x.due(1200, "load", 0x01020304, room).due(4, "byteAt", 1199).due(5 - room, "byteAt", 1200 - room);
            }
            x.refused(FULL, "load", 0, 1).refused(NONE, "byteAt", 1200).due(1200, "wipe").due(4, "load", 0, 4).alike();
        }
    }

    private static void bytesOfTheTape() {
        Due.sentence(34, "Byte i of THE TAPE, 0 .. 255.");
        Twins x = new Twins();
        for (int i = 0; i < 256; i++) {
            x.due(i + 1, "load", i, 1).due(i, "byteAt", i);
        }
        x.due(0, "byteAt", 0).due(127, "byteAt", 127).due(128, "byteAt", 128).due(255, "byteAt", 255).alike();
    }

    private static void noBytes() {
        Due.sentence(34, "NONE.");
        Twins x = new Twins();
        for (int i : new int[] {0, -1, 1, 1199, 1200, MAX, MIN}) {
            x.refused(NONE, "byteAt", i);
        }
        x.tell("load", 5, 4);
        for (int i : new int[] {-1, 4, 1199, 1200, MAX, MIN}) {
            x.refused(NONE, "byteAt", i);
        }
        x.due(5, "byteAt", 3).due(0, "byteAt", 0).due(4, "wipe").refused(NONE, "byteAt", 0).refused(NONE, "byteAt", 3);
        // what was there ahead of the wiping is not seen behind what comes
        x.due(1, "load", 9, 1).due(9, "byteAt", 0).refused(NONE, "byteAt", 1).alike();
        fill(new Twins(), 1200).due(43, "byteAt", 1199).refused(NONE, "byteAt", 1200).alike();
    }

    private static void spoiltBytes() {
        Due.sentence(35, "Byte i of THE TAPE becomes another one: it xor the lowest byte of a mask: that.");
        Twins x = new Twins().tell("load", 0x00FF55AA, 4);
        x.due(255, "spoil", 0, 255).due(255, "byteAt", 0).due(0, "spoil", 1, 255).due(0, "byteAt", 1).due(255, "spoil", 0, 0);
        x.due(255, "spoil", 0, 256).due(255, "spoil", 0, MIN).due(0, "spoil", 0, -1).due(255, "spoil", 0, MAX).due(254, "spoil", 0, 257);
        x.due(0x54, "spoil", 2, 0xF01).due(0x54, "byteAt", 2).due(0x2A, "spoil", 3, 128).due(0x2A, "byteAt", 3);
        x.due(0, "byteAt", 1).due(4, "count", 6).alike();
    }

    private static void spoilRefuses() {
        Due.sentence(35, "NONE.");
        Twins x = new Twins();
        for (int i : new int[] {0, -1, 1, 1199, 1200, MAX, MIN}) {
            x.refused(NONE, "spoil", i, 1).refused(NONE, "spoil", i, MIN);
        }
        x.tell("load", 0x01020304, 4);
        for (int i : new int[] {-1, 4, 1199, 1200, MAX, MIN}) {
            x.refused(NONE, "spoil", i, 255).refused(NONE, "spoil", i, 0);
        }
        x.due(5, "spoil", 0, 4).due(0, "spoil", 3, 4).due(4, "wipe").refused(NONE, "spoil", 0, 255);
        x.due(1, "load", 9, 1).due(9, "byteAt", 0).alike();
        fill(new Twins(), 1200).due(42, "spoil", 1199, 1).refused(NONE, "spoil", 1200, 1).alike();
    }

    private static void wipedTape() {
        Due.sentence(36, "THE TAPE is empty: how many bytes it had.");
        Twins x = new Twins().due(0, "wipe").due(0, "wipe").tell("load", 5, 3).due(3, "wipe").due(0, "count", 6).due(0, "wipe");
        x.refused(NONE, "verify").refused(NONE, "byteAt", 0);
        x.tell("parish", 0, false).tell("book", 0, 7).due(373, "wipe").refused(NONE, "verify").due(373, "book", 0, 9).due(1, "verify");
        // nothing but THE TAPE is wiped
        x.tell("page", 0, 0, 8, 9).due(373, "wipe").due('8', "sign", 0, 0).due(1, "count", 3).due(1, "count", 5).alike();
        fill(new Twins(), 1200).due(1200, "wipe").due(4, "load", 0, 4).due(4, "wipe").alike();
    }

    private static void verifiedBooks() {
        Due.sentence(37, "How many BOOKS THE TAPE is, one behind the other:");
        Twins x = new Twins().tell("parish", 96, true).tell("book", 0, 1).due(1, "verify").tell("book", 0, 4).due(2, "verify");
        x.tell("book", 0, 4106).due(3, "verify").due(3, "verify").alike();
        // the least ones have eight bytes: 150 of them are THE TAPE
        x = new Twins();
        for (int i = 0; i < 150; i++) {
            loadBook(x, i);
        }
        x.due(1200, "count", 6).due(150, "verify").due(1, "spoil", 1198, x.ask("byteAt", 1198) ^ 1).refused(NONE, "verify").alike();
    }

    private static void verifiedByDaysAndSum() {
        Due.sentence(37, "each by what it tells of its days (how many bytes), with its SUM (all else is not looked at).");
        Twins x = new Twins();
        // YEARS that are none, WEEKDAYS that do not follow, days that are too few and too many
        loadBook(x, 0xFFFF);
        x.due(1, "verify");
        loadBook(x, 0, 255, 254, 7, 7, 7);
        x.due(2, "verify");
        loadBook(x, 5001, new int[400]);
        x.due(3, "verify");
        loadBook(x, 2001, new int[256]);
        x.due(4, "verify");
        loadBook(x, 2001, new int[255]);
        x.due(5, "verify").alike();
        // one that is as long as THE TAPE
        x = new Twins();
        loadBook(x, 1, new int[1192]);
        x.due(1200, "count", 6).due(1, "verify").alike();
    }

    private static void verifyRefuses() {
        Due.sentence(37, "NONE: it is not such,");
        Twins x = new Twins().tell("parish", 0, false).tell("book", 0, 2001).tell("book", 0, 2000);
        // a bit of any byte: the YEAR's, of the days' number, a day's, the SUM's
        for (int i : new int[] {0, 1, 2, 3, 4, 200, 368, 369, 372, 373, 376, 377, 742, 743, 746}) {
            for (int mask : new int[] {1, 128}) {
                x.tell("spoil", i, mask).refused(NONE, "verify").tell("spoil", i, mask).due(2, "verify");
            }
        }
        // a BOOK that begins: each byte more is none, up to its last one
        x = new Twins().tell("parish", 0, false).tell("book", 0, 2001);
        for (int i = 0; i < 7; i++) {
            x.tell("load", 0, 1).refused(NONE, "verify");
        }
        x.alike();
        long sum = sum(0, 9, 0, 1, 77);
        x = new Twins();
        int[] bytes = {0, 9, 0, 1, 77, (int) (sum >> 24), (int) (sum >> 16 & 255), (int) (sum >> 8 & 255), (int) (sum & 255)};
        for (int i = 0; i < bytes.length; i++) {
            x.refused(NONE, "verify").tell("load", bytes[i], 1);
        }
        x.due(1, "verify").tell("load", 0, 1).refused(NONE, "verify").alike();
        // it tells of one more day, or of one less, than come
        x = new Twins();
        loadBook(x, 1, 5, 5);
        x.due(1, "verify").tell("spoil", 3, 1).refused(NONE, "verify").tell("spoil", 3, 2).refused(NONE, "verify").alike();
        // the greatest number of days that can be told
        new Twins().tell("load", 0xFFFF, 4).tell("load", 0, 4).refused(NONE, "verify").alike();
        fill(new Twins(), 1196).tell("load", 0xFFFF, 4).refused(NONE, "verify").alike();
    }

    private static void verifyOfEmptyAndFull() {
        Due.sentence(37, "or empty.");
        Twins x = new Twins().refused(NONE, "verify");
        loadBook(x, 3);
        // its head alone comes again: the SUM that was wiped is not THE TAPE
        x.due(1, "verify").due(8, "wipe").refused(NONE, "verify").tell("load", 0x00030000, 4).refused(NONE, "verify").alike();
        fill(new Twins(), 1200).refused(NONE, "verify").alike();
    }
}
