/** The edges of promises 11 to 14: ROWS and words. */
final class EdgesOfRowsAndWords {
    private static final int LAST = 1500000;
    private static final int MAX = Integer.MAX_VALUE, MIN = Integer.MIN_VALUE;
    private static final int BAD = AlmanacHouse.BAD, NONE = AlmanacHouse.NONE;
    private static final int OUTSIDE = AlmanacHouse.OUTSIDE, FULL = AlmanacHouse.FULL;
    private static final int[] NO_CALENDARS = {-1, 8, MAX, MIN};
    private static final int[] NO_LENGTHS = {0, 201, -1, -200, MAX, MIN};

    private EdgesOfRowsAndWords() { }

    static void run() {
        lengthsOfRows();
        rowsFollow();
        rowsWithinTheRange();
        mostRows();
        refusalsOfRowInOrder();
        wordsAndMonths();
        wordsThatNameAlready();
        mostWordsOfAMonth();
        mostWords();
        monthsByWords();
        wordsThatNameNothing();
        calendarsByWords();
    }

    private static void lengthsOfRows() {
        Due.sentence(11, "A ROW: a MONTH of CALENDAR 7, from a day on, so many days (1 .. 200): how many ROWS.", "BAD: length,");
        Twins x = new Twins();
        for (int length : NO_LENGTHS) {
            x.refused(BAD, "row", 700, length);
        }
        x.due(1, "row", 700, 1).due(2, "row", 701, 200).due(3, "row", 901, 199).due(4, "row", 1100, 2);
        for (int length : NO_LENGTHS) {
            x.refused(BAD, "row", 1102, length);
        }
        x.due(1, "monthLength", 7, 1, 1).due(200, "monthLength", 7, 1, 2).due(901, "toDay", 7, 1, 3, 1);
        x.due(700, "toDay", 7, 1, 1, 1).due(900, "toDay", 7, 1, 2, 200).alike();
    }

    private static void rowsFollow() {
        Due.sentence(11, "or first is not the day behind the last ROW;");
        Twins x = new Twins().due(1, "row", 700, 30);
        for (int first : new int[] {729, 731, 700, 699, 0, LAST, -1, LAST + 1, MAX, MIN}) {
            x.refused(BAD, "row", first, 5).refused(BAD, "row", first, 200);
        }
        x.due(2, "row", 730, 5).refused(BAD, "row", 730, 5).refused(BAD, "row", 734, 5).refused(BAD, "row", 736, 5);
        x.due(3, "row", 735, 5).due(2, "undo").refused(BAD, "row", 740, 5).due(3, "row", 735, 7).alike();
        // without a ROW, any day may be the first one
        x = new Twins().due(1, "row", 700, 30).due(0, "undo").due(1, "row", 3, 4).refused(BAD, "row", 730, 5);
        x.due(2, "row", 7, 4).alike();
    }

    private static void rowsWithinTheRange() {
        Due.sentence(11, "OUTSIDE: a day of it;");
        Twins x = new Twins();
        for (int first : new int[] {-1, -200, LAST + 1, MAX, MAX - 200, MIN, MIN + 200}) {
            x.refused(OUTSIDE, "row", first, 1).refused(OUTSIDE, "row", first, 200);
        }
        x.refused(OUTSIDE, "row", -1, 2).refused(OUTSIDE, "row", LAST, 2).refused(OUTSIDE, "row", LAST - 198, 200);
        x.due(1, "row", LAST - 199, 200).due(LAST, "toDay", 7, 1, 1, 200);
        x.refused(OUTSIDE, "row", LAST + 1, 1).refused(OUTSIDE, "row", LAST + 1, 200).alike();
        x = new Twins().due(1, "row", LAST, 1).refused(OUTSIDE, "row", LAST + 1, 1).due(0, "undo");
        x.due(1, "row", LAST - 1, 1).refused(OUTSIDE, "row", LAST, 2).due(2, "row", LAST, 1).alike();
        new Twins().due(1, "row", 0, 1).due(0, "toDay", 7, 1, 1, 1).alike();
    }

    private static void mostRows() {
        Due.sentence(11, "FULL: 500.");
        Twins x = new Twins();
        for (int i = 0; i < 499; i++) {
            x.tell("row", 10 + 3 * i, 3);
        }
        x.due(500, "row", 10 + 3 * 499, 3).refused(FULL, "row", 1510, 3).refused(FULL, "row", 1510, 200);
        x.due(10, "months", 7, 50).refused(NONE, "months", 7, 51).due(1509, "toDay", 7, 50, 10, 3);
        x.due(99, "undo").due(500, "row", 1507, 200).refused(FULL, "row", 1707, 1).alike();
    }

    private static void refusalsOfRowInOrder() {
        Due.sentence(11, "Refusals, of several the first one that the call names:");
        Twins x = new Twins();
        x.refused(BAD, "row", -1, 0).refused(BAD, "row", LAST + 1, 201).refused(BAD, "row", MIN, MIN);
        for (int i = 0; i < 500; i++) {
            x.tell("row", LAST - 499 + i, 1);
        }
        x.refused(OUTSIDE, "row", LAST + 1, 1).refused(BAD, "row", LAST + 1, 0).refused(BAD, "row", -1, 1);
        x.refused(BAD, "row", LAST, 1).alike();
    }

    private static void wordsAndMonths() {
        Due.sentence(12, "A word (not 0) names a MONTH (1 .. 53) of a CALENDAR, too: how many words that has.", "BAD:");
        Twins x = new Twins();
        for (int c : NO_CALENDARS) {
            x.refused(BAD, "name", c, 1, 5L);
        }
        for (int c = 0; c <= 7; c++) {
            for (int month : new int[] {0, 54, -1, MAX, MIN}) {
                x.refused(BAD, "name", c, month, 5L);
            }
            x.refused(BAD, "name", c, 1, 0L).refused(BAD, "name", c, 53, 0L);
            x.due(1, "name", c, 1, 5L).due(1, "name", c, 53, 6L);
        }
        // words are whole longs
        x.due(2, "name", 0, 1, Long.MIN_VALUE).due(3, "name", 0, 1, Long.MAX_VALUE);
        x.due(1, "name", 0, 2, 1L << 32).due(2, "name", 0, 2, (1L << 32) + 5).due(3, "name", 0, 2, -1L);
        x.due(1, "monthNamed", 0, Long.MIN_VALUE).due(1, "monthNamed", 0, Long.MAX_VALUE).due(2, "monthNamed", 0, -1L);
        x.due(2, "monthNamed", 0, 1L << 32).due(2, "monthNamed", 0, (1L << 32) + 5).due(53, "monthNamed", 7, 6L);
        x.alike();
    }

    private static void wordsThatNameAlready() {
        Due.sentence(12, "also it names one of that CALENDAR already;");
        Twins x = new Twins().due(1, "name", 2, 7, 5L);
        for (int month : new int[] {1, 7, 8, 53}) {
            x.refused(BAD, "name", 2, month, 5L);
        }
        x.due(1, "name", 3, 7, 5L).due(1, "name", 1, 8, 5L).refused(BAD, "name", 3, 9, 5L).due(2, "name", 2, 7, -5L);
        x.due(7, "monthNamed", 2, 5L).alike();
        // taken back, it may name another one
        x = new Twins().due(1, "name", 2, 7, 5L).due(0, "undo").due(1, "name", 2, 8, 5L).due(8, "monthNamed", 2, 5L);
        x.alike();
    }

    private static void mostWordsOfAMonth() {
        Due.sentence(12, "FULL: that MONTH has 3,");
        Twins x = new Twins().due(1, "name", 4, 9, 1L).due(2, "name", 4, 9, 2L).due(3, "name", 4, 9, 3L);
        x.refused(FULL, "name", 4, 9, 4L).refused(NONE, "monthNamed", 4, 4L);
        // a word that names one already goes ahead of FULL
        x.refused(BAD, "name", 4, 9, 3L).refused(BAD, "name", 4, 9, 0L);
        x.due(1, "name", 4, 8, 4L).due(1, "name", 5, 9, 4L).refused(BAD, "name", 4, 9, 4L);
        x.due(4, "undo").due(3, "undo").due(2, "undo").due(3, "name", 4, 9, 9L).alike();
    }

    private static void mostWords() {
        Due.sentence(12, "or there are 300 words.");
        Twins x = new Twins();
        for (int i = 0; i < 299; i++) {
            x.due(i % 3 + 1, "name", i / 150, i % 150 / 3 + 1, 1L + i);
        }
        x.due(1, "name", 7, 53, 300L).due(300, "count", 1);
        x.refused(FULL, "name", 7, 52, 301L).refused(FULL, "name", 7, 53, 301L).refused(FULL, "name", 0, 1, 301L);
        x.refused(BAD, "name", 7, 54, 301L).refused(BAD, "name", 8, 1, 301L).refused(BAD, "name", 7, 1, 0L);
        x.refused(BAD, "name", 0, 53, 1L).refused(BAD, "name", 7, 1, 300L);
        x.due(99, "undo").due(1, "name", 6, 1, 301L).refused(FULL, "name", 6, 1, 302L).alike();
    }

    private static void monthsByWords() {
        Due.sentence(13, "The MONTH of a CALENDAR that a word names.", "BAD;");
        Twins x = new Twins();
        for (int c = 0; c <= 7; c++) {
            x.tell("name", c, c == 0 ? 53 : c, 5L);
        }
        x.due(53, "monthNamed", 0, 5L);
        for (int c = 1; c <= 7; c++) {
            x.due(c, "monthNamed", c, 5L);
        }
        for (int c : NO_CALENDARS) {
            x.refused(BAD, "monthNamed", c, 5L).refused(BAD, "monthNamed", c, 6L).refused(BAD, "monthNamed", c, 0L);
        }
        x.alike();
    }

    private static void wordsThatNameNothing() {
        Due.sentence(13, "NONE.");
        Twins x = new Twins();
        for (int c = 0; c <= 7; c++) {
            for (long word : new long[] {0, 1, -1, Long.MAX_VALUE, Long.MIN_VALUE}) {
                x.refused(NONE, "monthNamed", c, word);
            }
        }
        x.tell("name", 3, 1, 5L).refused(NONE, "monthNamed", 2, 5L).refused(NONE, "monthNamed", 4, 5L);
        // the lowest bits of a word are not the word
        x.refused(NONE, "monthNamed", 3, (1L << 32) + 5).refused(NONE, "monthNamed", 3, 0L).refused(NONE, "monthNamed", 3, -5L);
        x.due(1, "monthNamed", 3, 5L).due(0, "undo").refused(NONE, "monthNamed", 3, 5L).alike();
    }

    private static void calendarsByWords() {
        Due.sentence(14, "How many CALENDARS have a MONTH that a word names.");
        Twins x = new Twins();
        for (long word : new long[] {0, 1, -1, 5, Long.MAX_VALUE, Long.MIN_VALUE}) {
            x.due(0, "spellings", word);
        }
        for (int c = 0; c <= 7; c++) {
            x.tell("name", c, 1 + c % 2, 5L).due(c + 1, "spellings", 5L);
        }
        x.refused(BAD, "name", 0, 3, 5L).due(8, "spellings", 5L).due(0, "spellings", 0L);
        x.tell("name", 0, 3, Long.MIN_VALUE).due(1, "spellings", Long.MIN_VALUE).due(0, "spellings", (1L << 32) + 5);
        x.due(8, "undo").due(0, "spellings", Long.MIN_VALUE).due(7, "undo").due(7, "spellings", 5L).alike();
    }
}
