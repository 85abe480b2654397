/** The edges of promises 30 and 31: THE PAGE and its signs. */
final class EdgesOfPages {
    private static final int LAST = 1500000;
    private static final int MAX = Integer.MAX_VALUE, MIN = Integer.MIN_VALUE;
    private static final int BAD = AlmanacHouse.BAD, NONE = AlmanacHouse.NONE, OUTSIDE = AlmanacHouse.OUTSIDE;
    private static final int FIXED = 0, BEHIND = 3;
    private static final String WEEKDAYS = " M  T  W  T  F  S  S";

    private EdgesOfPages() { }

    static void run() {
        pageRefuses();
        monthsThatAreNotThere();
        monthsOutside();
        refusalsOfPageInOrder();
        linesThatAreUsed();
        headings();
        linesOfWeeks();
        numbersOfDays();
        marksOfDays();
        marksOfTheDaysOwnYear();
        moonsOfAPage();
        feastsInOrder();
        feastsOfTheDaysOwnYear();
        numbersOfFeasts();
        weeksBeyondThePage();
        feastsBeyondThePage();
        theLastLine();
        pagesFollowPages();
        pagesOfParishes();
        emptyPage();
        signRefuses();
    }

    private static void line(Twins x, int line, String due) {
        StringBuilder got = new StringBuilder();
        for (int i = 0; i < 40; i++) {
            got.append((char) x.ask("sign", line, i));
        }
        Due.yes("line " + line + " is '" + due + "', not '" + got + "'", got.toString().equals(String.format("%-40s", due)));
    }

    private static void blankFrom(Twins x, int line) {
        for (int i = line; i < 28; i++) {
            line(x, i, "");
        }
    }

    /** The first signs of a line, without the moons. */
    private static void begins(Twins x, int line, String due) {
        StringBuilder got = new StringBuilder();
        for (int i = 0; i < 23; i++) {
            got.append((char) x.ask("sign", line, i));
        }
        Due.yes("line " + line + " begins '" + due + "', not '" + got + "'", got.toString().equals(String.format("%-23s", due)));
    }

    private static void pageRefuses() {
        Due.sentence(30, "BAD;");
        Twins x = new Twins();
        for (int parish : new int[] {-1, 0, 1, 7, 8, MAX, MIN}) {
            x.refused(BAD, "page", parish, 0, 2000, 1);
        }
        x.tell("parish", 64, true).due(7, "page", 0, 0, 2001, 2);
        for (int parish : new int[] {-1, 1, 7, 8, MAX, MIN}) {
            x.refused(BAD, "page", parish, 0, 2000, 1).refused(BAD, "page", parish, 8, 5001, 0);
        }
        for (int calendar : new int[] {-1, 8, MAX, MIN}) {
            x.refused(BAD, "page", 0, calendar, 2000, 1).refused(BAD, "page", 0, calendar, 5001, 0);
        }
        line(x, 0, "2001 2");
        x.alike();
    }

    private static void monthsThatAreNotThere() {
        Due.sentence(30, "NONE: no such MONTH;");
        int[] first = {0, 0, 1, 1, 1, 0, 0};
        int[] months = {12, 12, 13, 12, 12, 52, 18};
        Twins x = new Twins().tell("parish", 64, true).tell("page", 0, 0, 2001, 2);
        for (int c = 0; c <= 6; c++) {
            x.refused(NONE, "page", 0, c, first[c] - 1, 1).refused(NONE, "page", 0, c, 5001, 1);
            x.refused(NONE, "page", 0, c, MAX, 1).refused(NONE, "page", 0, c, MIN, 1);
            for (int month : new int[] {0, months[c] + 1, -1, MAX, MIN}) {
                x.refused(NONE, "page", 0, c, c == 4 ? 4 : 2, month);
            }
        }
        x.refused(NONE, "page", 0, 7, 1, 1).tell("row", 700, 3).due(3, "page", 0, 7, 1, 1).refused(NONE, "page", 0, 7, 1, 2);
        x.refused(NONE, "page", 0, 7, 2, 1).refused(NONE, "page", 0, 7, 0, 1).refused(NONE, "page", 0, 7, 1, 0);
        x.due(1, "undo").refused(NONE, "page", 0, 7, 1, 1);
        line(x, 0, "1 1");
        x.alike();
    }

    private static void monthsOutside() {
        Due.sentence(30, "OUTSIDE: a day of it.");
        Twins x = new Twins().tell("parish", 64, true).tell("page", 0, 0, 2001, 2);
        // day 0 begins a MONTH of 0, 2, 3, 4, 5 and 6, and lies within one of 1
        int[][] zero = {{0, 3}, {0, 3}, {1, 1}, {1, 1}, {1, 1}, {0, 10}, {0, 1}};
        int[][] last = {{4107, 1}, {4106, 12}, {4107, 10}, {4233, 11}, {4107, 11}, {4107, 2}, {4166, 13}};
        for (int c = 0; c <= 6; c++) {
            x.refused(OUTSIDE, "page", 0, c, last[c][0], last[c][1]).refused(OUTSIDE, "page", 0, c, 5000, 12);
            if (c == 1) {
                x.refused(OUTSIDE, "page", 0, c, 0, 3).due(7, "page", 0, c, 0, 4);
            } else {
                x.tell("page", 0, c, zero[c][0], zero[c][1]);
            }
        }
        x.refused(OUTSIDE, "page", 0, 0, 0, 2).refused(OUTSIDE, "page", 0, 0, 0, 1).refused(OUTSIDE, "page", 0, 1, 0, 2);
        x.refused(OUTSIDE, "page", 0, 5, 0, 9).refused(OUTSIDE, "page", 0, 0, 4107, 2);
        x.tell("page", 0, 0, 4106, 12).tell("page", 0, 1, 4106, 11).tell("page", 0, 2, 4107, 9).tell("page", 0, 3, 4233, 10);
        x.tell("page", 0, 4, 4107, 10).tell("page", 0, 5, 4107, 1).tell("page", 0, 6, 4166, 12);
        line(x, 0, "4166 12");
        // a ROW may end with the last day
        x.tell("row", LAST - 9, 10).due(4, "page", 0, 7, 1, 1).alike();
    }

    private static void refusalsOfPageInOrder() {
        Due.sentence(30, "Refusals, of several the first one that the call names:", "What is refused changes nothing.");
        Twins x = new Twins().refused(BAD, "page", 0, 0, 5000, 13).refused(BAD, "page", 0, 9, 5000, 1);
        x.tell("parish", 1, false).tell("feast", FIXED, 3, 5, 0, 1).tell("page", 0, 0, 7, 3);
        x.refused(NONE, "page", 0, 0, 5000, 13).refused(NONE, "page", 0, 0, 0, 0).refused(NONE, "page", 0, 5, 0, 54);
        x.refused(OUTSIDE, "page", 0, 0, 5000, 12).refused(BAD, "page", 1, 0, 5000, 12);
        line(x, 0, "7 3");
        x.alike();
    }

    private static void linesThatAreUsed() {
        Due.sentence(30, "THE PAGE is that of a MONTH for a PARISH: how many lines are used.");
        Twins x = new Twins().tell("parish", 0, false);
        // 28 days from Monday on are four lines, the least of a MONTH of 0
        x.due(6, "page", 0, 0, 6, 2).due(0, "fromDay", 0, Dates.dayOf(6, 2, 1), 3);
        x.due(7, "page", 0, 0, 0, 3).due(3, "page", 0, 5, 1, 1);
        // 31 days from Saturday on are six
        x.due(5, "fromDay", 0, Dates.dayOf(1, 1, 1), 3).due(8, "page", 0, 0, 1, 1);
        x.tell("row", 6, 1).tell("row", 7, 7).tell("row", 14, 8).tell("row", 22, 20);
        x.due(3, "page", 0, 7, 1, 1).due(3, "page", 0, 7, 1, 2).due(4, "page", 0, 7, 1, 3).due(5, "page", 0, 7, 1, 4);
        // and one for each FEAST
        x.tell("feast", FIXED, 3, 5, 0, 0).tell("feast", FIXED, 3, 5, 0, 0).tell("feast", FIXED, 4, 1, 0, 0);
        x.due(9, "page", 0, 0, 0, 3).alike();
    }

    private static void headings() {
        Due.sentence(30, "Of a MONTH of a CALENDAR: line 0: the YEAR and the MONTH, decimal, one blank between, from sign 0 on.",
            "Line 1: M, T, W, T, F, S, S at signs 1, 4, 7, .., 19.");
        Twins x = new Twins().tell("parish", 127, true);
        int[][] pages = {{0, 0, 3}, {0, 9, 12}, {0, 10, 1}, {0, 99, 9}, {0, 100, 10}, {0, 999, 1}, {0, 1000, 12}, {5, 0, 53},
            {5, 4106, 52}, {6, 0, 18}, {2, 1, 13}};
        for (int[] of : pages) {
            x.tell("page", 0, of[0], of[1], of[2]);
            line(x, 0, of[1] + " " + of[2]);
            line(x, 1, WEEKDAYS);
        }
        x.alike();
    }

    private static void linesOfWeeks() {
        Due.sentence(30, "From line 2 on a line for each week (from Monday on) that has days of it:");
        Twins x = new Twins().tell("parish", 0, false);
        // days 6, a Sunday, to 14, a Monday
        x.tell("row", 6, 9).due(5, "page", 0, 7, 1, 1);
        begins(x, 2, "                   1");
        begins(x, 3, " 2  3  4  5  6  7  8");
        begins(x, 4, " 9");
        blankFrom(x, 5);
        x.tell("page", 0, 0, 0, 3);
        begins(x, 2, " 1  2  3  4  5  6  7");
        begins(x, 6, "29 30 31");
        blankFrom(x, 7);
        x.alike();
    }

    private static void numbersOfDays() {
        Due.sentence(30, "each day's number (its two last digits, a blank for a 0 ahead) at signs 3 w and 3 w + 1 of its WEEKDAY w,");
        Twins x = new Twins().tell("parish", 0, false).tell("row", 7, 150).tell("page", 0, 7, 1, 1);
        begins(x, 2, " 1  2  3  4  5  6  7");
        begins(x, 3, " 8  9 10 11 12 13 14");
        begins(x, 15, "92 93 94 95 96 97 98");
        // 99, 100, 101, .. and 106 .. 112
        begins(x, 16, "99  0  1  2  3  4  5");
        begins(x, 17, " 6  7  8  9 10 11 12");
        begins(x, 23, "48 49 50");
        x.tell("row", 157, 200).tell("page", 0, 7, 1, 2);
        begins(x, 2, "          1  2  3  4");
        begins(x, 27, "73 74 75 76 77 78 79");
        x.alike();
    }

    private static void marksOfDays() {
        Due.sentence(30, "then * if a FEAST (of its own YEAR) is PLACED on it, else . if it is OFF;");
        Twins x = new Twins().tell("parish", 0b1000000, true).tell("parish", 0, true).tell("parish", 127, false);
        // 4 3 0 is a Thursday, OFF by a RULE; 5 3 and 6 3 have FEASTS, PLACED by moving; 12 3 is OFF by a RULE's day ahead
        x.tell("feast", FIXED, 3, 5, 0, 9).tell("feast", FIXED, 3, 5, 0, 8).tell("feast", FIXED, 3, 13, 0, 0);
        x.tell("rule", 0, 0, 1, 0).tell("rule", 0, 2, 1, 0).tell("page", 0, 0, 0, 3);
        begins(x, 2, " 1  2  3  4. 5* 6* 7.");
        begins(x, 3, " 8  9 10 11 12.13*14.");
        begins(x, 4, "15 16 17 18 19 20 21.");
        // no RULE of its own: * for FEASTS all the same
        x.tell("page", 1, 0, 0, 3);
        begins(x, 2, " 1  2  3  4  5* 6* 7");
        begins(x, 3, " 8  9 10 11 12 13*14");
        x.tell("page", 2, 0, 0, 3);
        begins(x, 2, " 1. 2. 3. 4. 5* 6* 7.");
        begins(x, 6, "29.30.31.");
        // a bridge over the ends of the MONTH: 30 4 is free, 1 5 between, 2 5 free
        x.tell("feast", FIXED, 4, 30, 0, 0).tell("feast", FIXED, 5, 2, 0, 0).tell("rule", 1, 3, 0, 0).tell("rule", 1, 4, 0, 0);
        x.tell("page", 1, 0, 0, 5);
        begins(x, 2, "                1. 2*");
        begins(x, 3, " 3  4  5  6  7  8  9");
        x.alike();
    }

    private static void marksOfTheDaysOwnYear() {
        Due.sentence(30, "(of its own YEAR)");
        Twins x = new Twins().tell("parish", 0, false).tell("feast", FIXED, 12, 31, 0, 9).tell("feast", FIXED, 12, 31, 0, 8);
        x.tell("feast", FIXED, 1, 2, 0, 0).tell("feast", BEHIND, 2, -2, 0, 0);
        // week 53 of YEAR 0: 1 1 1 is its Saturday. FEAST 1 of 0 is moved to it, FEAST 3 of 1 lies on 31 12
        x.due(306, "feastDay", 1, 0).due(305, "feastDay", 3, 1).due(304, "toDay", 0, 0, 12, 30).due(301, "toDay", 5, 0, 53, 1);
        x.due(5, "page", 0, 5, 0, 53);
        begins(x, 2, " 1  2  3  4  5* 6  7*");
        // without FEAST 0 the 31st keeps FEAST 1; without all of YEAR 0 it has none, though FEAST 3 of YEAR 1 lies there
        x = new Twins().tell("parish", 0, false).tell("feast", FIXED, 1, 2, 0, 0).tell("feast", BEHIND, 0, -2, 0, 0);
        x.due(305, "feastDay", 1, 1).due(4, "page", 0, 5, 0, 53);
        begins(x, 2, " 1  2  3  4  5  6  7*");
        // the days of the other YEAR's FEASTS may be OFF yet
        x.tell("rule", 0, 1, 0, 0).tell("page", 0, 5, 0, 53);
        begins(x, 2, " 1  2  3  4  5. 6  7*");
        x.alike();
    }

    private static void moonsOfAPage() {
        Due.sentence(30, "and o at sign 23 + w if a mean NEW MOON falls on it.");
        Twins x = new Twins().tell("parish", 0, false);
        // number 0 falls on day 0, a Monday, number 1 on day 29, a Tuesday
        x.tell("page", 0, 0, 0, 3);
        line(x, 2, " 1  2  3  4  5  6  7   o");
        line(x, 3, " 8  9 10 11 12 13 14");
        line(x, 6, "29 30 31                o");
        // in a day's first PART and in its last one: days 319285, a Saturday, and 419186, a Friday
        for (int n : new int[] {319285, 1084718, 419186, 1184619}) {
            int month = x.ask("fromDay", 6, n, 1);
            int year = x.ask("fromDay", 6, n, 0);
            int first = x.ask("toDay", 6, year, month, 1);
            x.tell("page", 0, 6, year, month);
            for (int day = first; day < first + 20; day++) {
                int line = 2 + day / 7 - first / 7;
                x.due(day == n ? 'o' : ' ', "sign", line, 23 + day % 7);
            }
        }
        // none falls on a day beside the MONTH's own ones: days 1 .. 28 have none
        x.tell("row", 1, 28).due(7, "page", 0, 7, 1, 1);
        for (int line = 2; line < 7; line++) {
            for (int i = 21; i < 40; i++) {
                x.due(' ', "sign", line, i);
            }
        }
        // a Sunday's sign is the 29th
        int sunday = 0;
        for (int k = 0; k < 20 && sunday == 0; k++) {
            int n = x.ask("newMoon", k);
            sunday = n % 7 == 6 ? n : 0;
        }
        int week = x.ask("fromDay", 5, sunday, 1);
        x.tell("page", 0, 5, x.ask("fromDay", 5, sunday, 0), week).due('o', "sign", 2, 29).due(' ', "sign", 2, 28).alike();
    }

    private static void feastsInOrder() {
        Due.sentence(30, "Then a line for each FEAST PLACED on a day of it (of the day's own YEAR), by days, on one by RANKS, the greatest"
            + " first, then numbers:");
        Twins x = new Twins().tell("parish", 0, false);
        // the last day first; three on day 5 of RANK 0, one of 9; one that is moved to the first day, one that is moved away
        x.tell("feast", FIXED, 3, 31, 0, 4).tell("feast", FIXED, 3, 5, 0, 0).tell("feast", FIXED, 3, 5, 0, 0);
        x.tell("feast", FIXED, 3, 5, 0, 9).tell("feast", FIXED, 3, 5, 0, 0).tell("feast", FIXED, 2, 28, 0, 5);
        x.tell("feast", FIXED, 2, 28, 0, 6).tell("feast", FIXED, 3, 31, 0, 3);
        x.due(13, "page", 0, 0, 1, 3);
        line(x, 7, " 1 5  5");
        line(x, 8, " 5 3  9");
        line(x, 9, " 5 1  0");
        line(x, 10, " 5 2  0");
        line(x, 11, " 5 4  0");
        line(x, 12, "31 0  4");
        blankFrom(x, 13);
        x.due(8, "page", 0, 0, 1, 4);
        line(x, 7, " 1 7  3");
        x.alike();
    }

    private static void feastsOfTheDaysOwnYear() {
        Due.sentence(30, "(of the day's own YEAR),");
        Twins x = new Twins().tell("parish", 0, false).tell("feast", FIXED, 12, 31, 0, 9).tell("feast", FIXED, 12, 31, 0, 8);
        x.tell("feast", FIXED, 1, 2, 0, 1).tell("feast", BEHIND, 2, -2, 0, 1);
        x.due(5, "page", 0, 5, 0, 53);
        line(x, 3, " 5 0  9");
        line(x, 4, " 7 2  1");
        blankFrom(x, 5);
        // FEAST 1 of YEAR 0 is moved to 1 1 1, FEAST 3 of YEAR 1 lies on 31 12 0: a ROW over both days has neither
        x.due(306, "feastDay", 1, 0).due(305, "feastDay", 3, 1).tell("row", 300, 10).due(7, "page", 0, 7, 1, 1);
        line(x, 5, " 6 0  9");
        line(x, 6, " 8 2  1");
        x.alike();
    }

    private static void numbersOfFeasts() {
        Due.sentence(30, "the day's number likewise at 0 and 1, at 3 the FEAST's number, at 6 its RANK, decimal from there on.");
        Twins x = new Twins().tell("parish", 0, false);
        for (int i = 0; i < 60; i++) {
            x.tell("feast", FIXED, i == 9 || i == 10 || i == 59 ? 3 : 9, i == 59 ? 30 : i == 9 ? 9 : 10, 0, 0);
        }
        x.due(10, "page", 0, 0, 0, 3);
        line(x, 7, " 9 9  0");
        line(x, 8, "10 10 0");
        line(x, 9, "30 59 0");
        blankFrom(x, 10);
        x.alike();
        // day 100 of a ROW, and day 99: 5 3 1 is day 369
        x = new Twins().tell("parish", 0, false).tell("feast", FIXED, 3, 5, 0, 0).tell("feast", FIXED, 3, 4, 0, 9);
        x.tell("row", 270, 110).due(21, "page", 0, 7, 1, 1);
        line(x, 19, "99 1  9");
        line(x, 20, " 0 0  0");
        x.alike();
    }

    private static void weeksBeyondThePage() {
        Due.sentence(30, "What would be in line 28 and on is left out.");
        // 26 weeks are lines 2 .. 27; a day more would be in line 28
        Twins x = new Twins().tell("parish", 0, false).tell("row", 7, 182).tell("row", 189, 183).tell("row", 372, 200);
        x.due(28, "page", 0, 7, 1, 1);
        begins(x, 27, "76 77 78 79 80 81 82");
        x.due(28, "page", 0, 7, 1, 2);
        begins(x, 27, "76 77 78 79 80 81 82");
        // a FEAST's line behind 26 weeks is left out, behind 25 it is the last one
        x.tell("feast", FIXED, 6, 1, 0, 3).due(28, "page", 0, 7, 1, 1);
        begins(x, 27, "76 77 78 79 80 81 82");
        x.refused(BAD, "sign", 28, 0).alike();
        x = new Twins().tell("parish", 0, false).tell("row", 7, 175).tell("feast", FIXED, 6, 1, 0, 3).tell("feast", FIXED, 6, 2, 0, 3);
        x.due(28, "page", 0, 7, 1, 1);
        begins(x, 26, "69 70 71 72 73 74 75");
        // 1 6 0 is day 92, the 86th one of the ROW
        line(x, 27, "86 0  3");
        x.due(3, "undo").due(28, "page", 0, 7, 1, 1).due(2, "undo").due(27, "page", 0, 7, 1, 1);
        blankFrom(x, 27);
        x.alike();
    }

    private static void feastsBeyondThePage() {
        Due.sentence(30, "line 28 and on is left out.");
        // five weeks leave 21 lines
        Twins x = new Twins().tell("parish", 0, false);
        for (int i = 0; i < 20; i++) {
            x.tell("feast", FIXED, 3, 1, 0, 0);
        }
        x.due(27, "page", 0, 0, 0, 3);
        line(x, 26, " 1 19 0");
        blankFrom(x, 27);
        x.tell("feast", FIXED, 3, 2, 0, 0).due(28, "page", 0, 0, 0, 3);
        line(x, 27, " 2 20 0");
        // a day's * stands though its line is left out
        x.tell("feast", FIXED, 3, 3, 0, 0).due(28, "page", 0, 0, 0, 3);
        line(x, 27, " 2 20 0");
        begins(x, 2, " 1* 2* 3* 4  5  6  7");
        for (int i = 22; i < 60; i++) {
            x.tell("feast", FIXED, 3, 1, 0, 1);
        }
        x.due(28, "page", 0, 0, 0, 3);
        line(x, 7, " 1 22 1");
        line(x, 8, " 1 0  0");
        line(x, 27, " 1 19 0");
        x.alike();
    }

    private static void theLastLine() {
        Due.sentence(30, "A PAGE has 28 lines");
        // the weeks alone go beyond it by far: 200 days are 29 or 30 of them
        Twins x = new Twins().tell("parish", 127, false).tell("row", 6, 200);
        x.due(28, "page", 0, 7, 1, 1);
        begins(x, 2, "                   1.");
        begins(x, 27, "70.71.72.73.74.75.76.");
        for (int i = 30; i < 40; i++) {
            x.due(' ', "sign", 27, i);
        }
        x.alike();
    }

    private static void pagesFollowPages() {
        Due.sentence(30, "32 where nothing is told.");
        Twins x = new Twins().tell("parish", 127, false).tell("row", 7, 200).tell("feast", FIXED, 3, 1, 0, 0);
        x.tell("page", 0, 7, 1, 1).tell("page", 0, 0, 1000, 12).tell("page", 0, 5, 1, 1);
        line(x, 0, "1 1");
        line(x, 1, WEEKDAYS);
        begins(x, 2, " 1. 2. 3. 4. 5. 6. 7.");
        blankFrom(x, 3);
        x.alike();
    }

    private static void pagesOfParishes() {
        Due.sentence(30, "for a PARISH");
        Twins x = new Twins();
        for (int i = 0; i < 7; i++) {
            x.tell("parish", 1 << i, false);
        }
        x.tell("parish", 127, false);
        for (int i = 0; i < 8; i++) {
            x.tell("page", i, 0, 0, 3);
            for (int w = 0; w < 7; w++) {
                x.due(w == i || i == 7 ? '.' : ' ', "sign", 3, 3 * w + 2);
            }
        }
        // it stays as it was written, whatever comes
        x.due(7, "undo").due('.', "sign", 3, 2).tell("feast", FIXED, 3, 8, 0, 0).due('.', "sign", 3, 2).alike();
    }

    private static void emptyPage() {
        Due.sentence(31, "A sign of THE PAGE (32 all over at first).", "A PAGE has 28 lines of 40 signs, 32 where nothing is told.");
        Twins x = new Twins();
        for (int line = 0; line < 28; line++) {
            for (int i = 0; i < 40; i++) {
                x.due(32, "sign", line, i);
            }
        }
        x.tell("parish", 0, false).due(32, "sign", 1, 1).tell("page", 0, 0, 0, 3).due('M', "sign", 1, 1).due(32, "sign", 27, 39);
        x.due('0', "sign", 0, 0).due(32, "sign", 0, 1).due('3', "sign", 0, 2).due('o', "sign", 2, 23).alike();
    }

    private static void signRefuses() {
        Due.sentence(31, "BAD: line, place.");
        Twins x = new Twins().tell("parish", 0, false).tell("page", 0, 0, 0, 3);
        for (int line : new int[] {-1, 28, 40, MAX, MIN}) {
            x.refused(BAD, "sign", line, 0).refused(BAD, "sign", line, 39).refused(BAD, "sign", line, -1);
        }
        for (int i : new int[] {-1, 40, MAX, MIN}) {
            x.refused(BAD, "sign", 0, i).refused(BAD, "sign", 27, i).refused(BAD, "sign", 28, i);
        }
        x.due(32, "sign", 27, 39).due(32, "sign", 27, 0).due(32, "sign", 0, 39).due('0', "sign", 0, 0).alike();
    }
}
