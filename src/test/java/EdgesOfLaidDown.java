/** The edges of promises 1, 38 and 39: a new object, undo, count. */
final class EdgesOfLaidDown {
    private static final int LAST = 1500000;
    private static final int MAX = Integer.MAX_VALUE, MIN = Integer.MIN_VALUE;
    private static final int BAD = AlmanacHouse.BAD, NONE = AlmanacHouse.NONE;
    private static final int FIXED = 0, MOVABLE = 2, BEHIND = 3;

    private EdgesOfLaidDown() { }

    static void run() {
        noRows();
        noWords();
        noFeasts();
        noParishes();
        nothingWritten();
        objectsShareNothing();
        theLatestIsTakenBack();
        rowsTakenBack();
        wordsTakenBack();
        feastsTakenBack();
        parishesTakenBack();
        onlyTheseAreTakenBack();
        refusedOnesAreNone();
        aHundredAtMost();
        aHundredOfAllKinds();
        noneCanBeTakenBack();
        counts();
        countRefuses();
        fullCounts();
    }

    private static void noRows() {
        Due.sentence(1, "No ROWS,");
        Twins x = new Twins().due(0, "count", 0);
        for (int year : new int[] {0, 1, 2, 50, 51, 5000}) {
            x.refused(NONE, "months", 7, year).refused(NONE, "yearLength", 7, year).refused(NONE, "monthLength", 7, year, 1);
            x.refused(NONE, "toDay", 7, year, 1, 1);
        }
        for (int n : new int[] {0, 1, 730000, LAST}) {
            x.refused(NONE, "fromDay", 7, n, 0).refused(NONE, "fromDay", 7, n, 3).refused(NONE, "addMonths", 7, n, 0);
            x.refused(NONE, "addYears", 7, n, 0).refused(NONE, "difference", 7, n, n, 0);
        }
        x.due(1, "row", LAST, 1).alike();
    }

    private static void noWords() {
        Due.sentence(1, "words,");
        Twins x = new Twins().due(0, "count", 1);
        for (long word : new long[] {0, 1, -1, Long.MAX_VALUE, Long.MIN_VALUE}) {
            x.due(0, "spellings", word);
            for (int c = 0; c <= 7; c++) {
                x.refused(NONE, "monthNamed", c, word);
            }
        }
        x.due(1, "name", 7, 53, Long.MIN_VALUE).alike();
    }

    private static void noFeasts() {
        Due.sentence(1, "FEASTS,");
        Twins x = new Twins().due(0, "count", 2);
        for (int feast : new int[] {0, 1, 59}) {
            x.refused(BAD, "feastDay", feast, 2000).refused(BAD, "moved", feast, 2000).refused(BAD, "feast", BEHIND, feast, 0, 0, 1);
        }
        for (int n : new int[] {0, 306, 730000, LAST}) {
            x.refused(NONE, "feastOn", n, 0).refused(NONE, "feastOn", n, -1).refused(NONE, "feastOn", n, MAX);
        }
        x.due(0, "feast", MOVABLE, 0, 0, 0, 1).alike();
    }

    private static void noParishes() {
        Due.sentence(1, "PARISHES;");
        Twins x = new Twins().due(0, "count", 3).due(0, "count", 4).refused(BAD, "rule", 0, 0, 0, 0);
        for (int parish : new int[] {0, 1, 7}) {
            x.refused(BAD, "isOff", parish, 5).refused(BAD, "worked", parish, 5, 5).refused(BAD, "nextOff", parish, 5);
            x.refused(BAD, "inRow", parish, 5).refused(BAD, "page", parish, 0, 2000, 1).refused(BAD, "book", parish, 2000);
        }
        x.due(0, "parish", 0, false).alike();
    }

    private static void nothingWritten() {
        Due.sentence(1, "THE TAPE, THE PAGE, THE BOOK are empty.");
        Twins x = new Twins().due(0, "count", 6).refused(NONE, "verify").due(0, "wipe");
        for (int i : new int[] {0, 1, 1199}) {
            x.refused(NONE, "byteAt", i).refused(NONE, "spoil", i, 1);
        }
        for (int i = 0; i < 28 * 40; i++) {
            x.due(32, "sign", i / 40, i % 40);
        }
        x.refused(NONE, "undo").due(0, "count", 5).due(1, "load", 0, 1).alike();
    }

    private static void objectsShareNothing() {
        Due.sentence(1, "No ROWS, words, FEASTS, PARISHES; THE TAPE, THE PAGE, THE BOOK are empty.");
        // one that was used up to its limits, then a new one
        Twins used = new Twins();
        for (int i = 0; i < 100; i++) {
            used.tell("row", 10 + i, 1).tell("name", i % 7, 1 + i / 7, 5L + i).tell("load", i, 4);
        }
        for (int i = 0; i < 8; i++) {
            used.tell("parish", 127, true).tell("feast", FIXED, 3, 1, 0, 1).tell("rule", i, i, 1, 1);
        }
        used.tell("page", 0, 0, 0, 3).tell("book", 0, 5);
        Twins x = new Twins();
        for (int what = 0; what <= 6; what++) {
            x.due(0, "count", what);
        }
        x.due(32, "sign", 0, 0).refused(NONE, "feastOn", 0, 0).refused(NONE, "fromDay", 7, 10, 0).due(0, "spellings", 5L).alike();
        used.due(100, "count", 0).due(100, "count", 1).due(8, "count", 2).due(8, "count", 3).due(8, "count", 4);
        used.due(100, "count", 5).due(773, "count", 6).alike();
    }

    private static void theLatestIsTakenBack() {
        Due.sentence(38, "The latest accepted row(), name(), feast(), parish(), rule() is as if it had not been:");
        Twins x = new Twins().tell("row", 5, 5).tell("parish", 96, false).tell("name", 0, 1, 7L).tell("feast", FIXED, 5, 5, 0, 1);
        x.tell("rule", 0, 0, 0, 0).tell("row", 10, 5).tell("name", 1, 1, 7L).tell("feast", FIXED, 5, 6, 0, 1);
        int[][] due = {{2, 2, 1, 1, 1}, {2, 1, 1, 1, 1}, {1, 1, 1, 1, 1}, {1, 1, 1, 1, 0}, {1, 1, 0, 1, 0}, {1, 0, 0, 1, 0},
            {1, 0, 0, 0, 0}, {0, 0, 0, 0, 0}};
        for (int i = 0; i < due.length; i++) {
            x.due(7 - i, "undo").due(7 - i, "count", 5);
            for (int what = 0; what <= 4; what++) {
                x.due(due[i][what], "count", what);
            }
        }
        x.refused(NONE, "undo").alike();
    }

    private static void rowsTakenBack() {
        Due.sentence(38, "row(),");
        Twins x = new Twins();
        for (int i = 0; i < 11; i++) {
            x.tell("row", 100 + 10 * i, 10);
        }
        x.due(1, "months", 7, 2).due(10, "undo").refused(NONE, "months", 7, 2).due(10, "months", 7, 1);
        x.refused(NONE, "fromDay", 7, 200, 0).due(10, "fromDay", 7, 199, 2).refused(BAD, "row", 210, 5).due(11, "row", 200, 7);
        x.due(7, "monthLength", 7, 2, 1);
        for (int i = 10; i >= 0; i--) {
            x.due(i, "undo");
        }
        // from any day on again
        x.due(1, "row", 3, 4).due(3, "toDay", 7, 1, 1, 1).due(0, "fromDay", 7, 3, 3).refused(NONE, "fromDay", 7, 100, 0).alike();
    }

    private static void wordsTakenBack() {
        Due.sentence(38, "name(),");
        Twins x = new Twins().due(1, "name", 3, 3, 7L).due(2, "name", 3, 3, 8L).due(3, "name", 3, 3, 9L).due(2, "undo");
        x.refused(NONE, "monthNamed", 3, 9L).due(0, "spellings", 9L).due(3, "monthNamed", 3, 8L).due(3, "name", 3, 3, 10L);
        x.refused(-4, "name", 3, 3, 9L).due(2, "undo").due(1, "undo").due(0, "undo").due(1, "name", 3, 4, 7L);
        x.due(4, "monthNamed", 3, 7L).alike();
    }

    private static void feastsTakenBack() {
        Due.sentence(38, "feast(),");
        Twins x = new Twins().tell("parish", 0, false).tell("feast", FIXED, 7, 10, 0, 1).tell("rule", 0, 0, 0, 0);
        int day = Dates.dayOf(1999, 7, 10);
        x.due(day, "feastDay", 0, 1999).due(1, "isOff", 0, day);
        x.tell("feast", FIXED, 7, 10, 0, 2).due(day + 1, "feastDay", 0, 1999).due(1, "moved", 0, 1999).due(0, "isOff", 0, day);
        x.due(1, "feastOn", day, 0).due(3, "undo").due(day, "feastDay", 0, 1999).due(0, "moved", 0, 1999).due(1, "isOff", 0, day);
        x.due(0, "feastOn", day, 0).refused(NONE, "feastOn", day, 1).refused(BAD, "feastDay", 1, 1999);
        // its number is given again, with another day
        x.due(1, "feast", FIXED, 7, 20, 0, 2).due(day + 10, "feastDay", 1, 1999).due(0, "moved", 0, 1999).alike();
    }

    private static void parishesTakenBack() {
        Due.sentence(38, "parish(), rule()");
        Twins x = new Twins().tell("feast", FIXED, 7, 10, 0, 1).tell("parish", 127, true).tell("rule", 0, 0, 5, 5);
        int day = Dates.dayOf(1999, 7, 10);
        x.due(2, "undo").due(1, "undo").refused(BAD, "isOff", 0, day).due(0, "parish", 0, true).due(0, "isOff", 0, day);
        x.due(1, "rule", 0, 0, 0, 0).due(1, "isOff", 0, day).due(0, "isOff", 0, day + 1).due(2, "undo").due(0, "isOff", 0, day);
        x.due(1, "undo").due(0, "parish", 1, false).due(1, "rule", 0, 0, 1, 0).due(1, "isOff", 0, day - 1).alike();
    }

    private static void onlyTheseAreTakenBack() {
        Due.sentence(38, "The latest accepted");
        Twins x = new Twins().tell("parish", 96, true).tell("row", 7, 7);
        x.tell("load", 77, 2).tell("page", 0, 7, 1, 1).tell("book", 0, 2001).tell("spoil", 0, 1).due(2, "count", 5);
        x.due(1, "undo").due(375, "count", 6).due(1, "byteAt", 0).due('1', "sign", 0, 0).due(0, "count", 0);
        x.due(0, "undo").due(375, "count", 6).due('1', "sign", 2, 1).due(375, "wipe").refused(NONE, "undo").due(0, "count", 6);
        // nor is a call that was taken back
        x.tell("row", 9, 9).due(0, "undo").refused(NONE, "undo").refused(NONE, "undo").due(0, "count", 0).alike();
    }

    private static void refusedOnesAreNone() {
        Due.sentence(38, "accepted");
        Twins x = new Twins().tell("row", 0, 5).tell("name", 0, 1, 1L).tell("feast", FIXED, 1, 1, 0, 1).tell("parish", 0, true);
        x.tell("rule", 0, 0, 0, 0);
        x.refused(BAD, "row", 6, 5).refused(BAD, "name", 0, 2, 1L).refused(BAD, "feast", 4, 1, 1, 0, 1).refused(BAD, "parish", 128, true);
        x.refused(BAD, "rule", 0, 0, 0, 11).due(5, "count", 5).due(4, "undo").due(0, "count", 4).alike();
    }

    private static void aHundredAtMost() {
        Due.sentence(38, "how many can be taken back yet (100 at most).");
        for (int rows : new int[] {99, 100, 101, 200, 250}) {
            Twins x = new Twins();
            for (int i = 0; i < rows; i++) {
                x.tell("row", 3 * i, 3).due(Math.min(100, i + 1), "count", 5);
            }
            int can = Math.min(100, rows);
            for (int i = 1; i <= can; i++) {
                x.due(can - i, "undo").due(rows - i, "count", 0);
            }
            x.refused(NONE, "undo").due(rows - can, "count", 0);
            // of those that are left one more can be taken back, if one more comes
            x.tell("row", 3 * (rows - can), 1).due(1, "count", 5).due(0, "undo").refused(NONE, "undo").alike();
        }
        // what came ahead of the hundred is not taken back, though some of them were
        Twins x = new Twins();
        for (int i = 0; i < 150; i++) {
            x.tell("row", i, 1);
        }
        for (int i = 0; i < 60; i++) {
            x.due(99 - i, "undo");
        }
        for (int i = 90; i < 120; i++) {
            x.tell("row", i, 1);
        }
        x.due(70, "count", 5);
        for (int i = 69; i >= 0; i--) {
            x.due(i, "undo");
        }
        x.refused(NONE, "undo").due(50, "count", 0).alike();
    }

    private static void aHundredOfAllKinds() {
        Due.sentence(38, "(100 at most).");
        Twins x = new Twins().tell("parish", 0, false).tell("feast", FIXED, 1, 1, 0, 1);
        for (int i = 0; i < 40; i++) {
            x.tell("row", i, 1).tell("name", 0, 1 + i / 3, 1L + i).tell("rule", 0, 0, 0, 0);
        }
        x.due(100, "count", 5).due(40, "count", 0).due(40, "count", 1).due(40, "count", 4);
        for (int i = 0; i < 99; i++) {
            x.tell("undo");
        }
        x.due(1, "count", 5).due(7, "count", 0).due(7, "count", 1).due(7, "count", 4).due(0, "undo").due(6, "count", 4).due(7, "count", 0);
        x.refused(NONE, "undo").due(1, "count", 3).due(1, "count", 2).alike();
    }

    private static void noneCanBeTakenBack() {
        Due.sentence(38, "NONE: none can.");
        Twins x = new Twins().refused(NONE, "undo").refused(NONE, "undo").tell("load", 1, 1).refused(NONE, "undo");
        x.due(0, "parish", 0, false).due(0, "undo").refused(NONE, "undo").due(1, "count", 6).due(0, "parish", 0, false).alike();
    }

    private static void counts() {
        Due.sentence(39, "How many: 0 ROWS, 1 words, 2 FEASTS, 3 PARISHES, 4 RULES, 5 what can be taken back, 6 bytes of THE TAPE.");
        Twins x = new Twins();
        int[] due = new int[7];
        int[] times = {7, 6, 5, 4, 3};
        for (int i = 0; i < 7; i++) {
            if (i < times[0]) {
                x.tell("row", 10 * i, 10);
                due[0]++;
            }
            if (i < times[1]) {
                x.tell("name", i, 1, 9L);
                due[1]++;
            }
            if (i < times[2]) {
                x.tell("feast", FIXED, 1, 1, 0, 1);
                due[2]++;
            }
            if (i < times[3]) {
                x.tell("parish", 0, false);
                due[3]++;
            }
            if (i < times[4]) {
                x.tell("rule", i, i, 0, 0);
                due[4]++;
            }
            x.tell("load", 0, 2);
            due[5] = due[0] + due[1] + due[2] + due[3] + due[4];
            due[6] += 2;
            for (int what = 0; what <= 6; what++) {
                x.due(due[what], "count", what);
            }
        }
        x.alike();
    }

    private static void countRefuses() {
        Due.sentence(39, "BAD.");
        Twins x = new Twins();
        for (int what : new int[] {-1, 7, 8, MAX, MIN}) {
            x.refused(BAD, "count", what);
        }
        x.tell("row", 5, 5).tell("load", 7, 3).refused(BAD, "count", 7).refused(BAD, "count", -1).due(1, "count", 0);
        x.due(3, "count", 6).alike();
    }

    /** Not all of one object: to fill it whole takes more calls than it is to be used for. */
    private static void fullCounts() {
        Due.sentence(39, "How many:");
        Twins x = new Twins();
        for (int i = 0; i < 500; i++) {
            x.tell("row", i, 1);
        }
        countsAre(x, 500, 0, 0, 0, 0, 100, 0);
        x = new Twins();
        for (int i = 0; i < 300; i++) {
            x.tell("name", i / 150, 1 + i % 150 / 3, 1L + i);
        }
        countsAre(x, 0, 300, 0, 0, 0, 100, 0);
        x = new Twins();
        for (int i = 0; i < 300; i++) {
            x.tell("load", i, 4);
        }
        for (int i = 0; i < 60; i++) {
            x.tell("feast", FIXED, 1, 1, 0, i % 10);
        }
        for (int i = 0; i < 48; i++) {
            if (i < 8) {
                x.tell("parish", i, false);
            }
            x.tell("rule", i % 8, i, 0, 0);
        }
        countsAre(x, 0, 0, 60, 8, 48, 100, 1200);
    }

    private static void countsAre(Twins x, int... due) {
        for (int what = 0; what <= 6; what++) {
            x.due(due[what], "count", what);
        }
        x.alike();
    }
}
