/** The edges of promises 2 to 6: dates, and how long MONTHS and YEARS are. */
final class EdgesOfCalendars {
    private static final int LAST = 1500000;
    private static final int MAX = Integer.MAX_VALUE, MIN = Integer.MIN_VALUE;
    private static final int BAD = AlmanacHouse.BAD, NONE = AlmanacHouse.NONE, OUTSIDE = AlmanacHouse.OUTSIDE;
    private static final int[] NO_CALENDARS = {-1, 8, MAX, MIN};
    private static final int[] NO_DAYS = {-1, LAST + 1, MAX, MIN};
    private static final int[] FIRST = {0, 0, 1, 1, 1, 0, 0};
    /** The first MONTH of the FIRST YEAR, the last one of YEAR 5000, and how many days they have. */
    private static final int[] FIRST_MONTH_DAYS = {31, 31, 30, 30, 30, 7, 20};
    private static final int[] LAST_MONTH = {12, 12, 13, 12, 13, 52, 18};
    private static final int[] LAST_MONTH_DAYS = {31, 31, 5, 29, 29, 7, 20};
    /** The dates of day 0 and of the last day: YEAR, MONTH, day. */
    private static final int[][] DAY_ZERO = {
        {0, 3, 1}, {0, 3, 3}, {1, 1, 1}, {1, 1, 1}, {1, 1, 1}, {0, 10, 1}, {0, 1, 1}};
    private static final int[][] LAST_DATE = {
        {4107, 1, 10}, {4106, 12, 12}, {4107, 10, 15}, {4233, 11, 26}, {4107, 11, 23}, {4107, 2, 6}, {4166, 13, 1}};

    private EdgesOfCalendars() { }

    static void run() {
        toDayRefusesCalendars();
        daysOfTheRange();
        yearsOfACalendar();
        datesThatAreThere();
        refusalsOfToDayInOrder();
        fromDayRefuses();
        fromDayAtTheEndsOfTheRange();
        fromDayAtTheTurnOfAYear();
        weekdaysTurn();
        namesAndCountsTurn();
        townDaysTurn();
        daysWithoutARow();
        sunMonths();
        leapYears();
        oldLeapYears();
        thirteenthMonths();
        tabledMoons();
        longYears();
        countedYearStarts();
        countedMonths();
        weeksOfAYear();
        theRound();
        townYears();
        monthLengthRefuses();
        yearLengthRefuses();
        monthsRefuses();
    }

    /** Ten ROWS and one more: 103 .. 152 by fives, then 153 .. 352. */
    private static Twins town() {
        Twins x = new Twins();
        for (int i = 0; i < 10; i++) {
            x.tell("row", 103 + 5 * i, 5);
        }
        return x.tell("row", 153, 200);
    }

    private static void toDayRefusesCalendars() {
        Due.sentence(2, "The number of a date.", "BAD;", "BAD -1 (no such calendar, feast, parish, or a number that is not as told)");
        Twins x = new Twins();
        for (int c : NO_CALENDARS) {
            x.refused(BAD, "toDay", c, 2000, 1, 1);
        }
        x.due(306, "toDay", 0, 1, 1, 1).due(304, "toDay", 1, 1, 1, 1);
        x.due(NONE, "toDay", 7, 1, 1, 1);
        x.alike();
        town().due(103, "toDay", 7, 1, 1, 1).refused(BAD, "toDay", 8, 1, 1, 1).alike();
    }

    private static void daysOfTheRange() {
        Due.sentence(2, "DAYS have numbers 0 .. 1500000;", "OUTSIDE -3 (a day that is no day, or as told)", "OUTSIDE.");
        Twins x = new Twins();
        for (int c = 0; c <= 6; c++) {
            int[] zero = DAY_ZERO[c];
            x.due(0, "toDay", c, zero[0], zero[1], zero[2]);
            int[] last = LAST_DATE[c];
            x.due(LAST, "toDay", c, last[0], last[1], last[2]);
            x.refused(OUTSIDE, "toDay", c, last[0], last[1], last[2] + 1);
            x.refused(OUTSIDE, "toDay", c, 5000, 1, 1);
        }
        x.refused(OUTSIDE, "toDay", 0, 0, 2, 29);
        x.refused(OUTSIDE, "toDay", 0, 0, 1, 1);
        x.refused(OUTSIDE, "toDay", 1, 0, 3, 2);
        x.refused(OUTSIDE, "toDay", 1, 0, 1, 1);
        x.refused(OUTSIDE, "toDay", 5, 0, 9, 7);
        x.refused(OUTSIDE, "toDay", 5, 0, 1, 1);
        x.alike();
    }

    private static void yearsOfACalendar() {
        Due.sentence(2, "YEARS are numbers up to 5000, from FIRST on.");
        Twins x = new Twins();
        for (int c = 0; c <= 6; c++) {
            x.refused(NONE, "toDay", c, FIRST[c] - 1, 1, 1);
            x.refused(OUTSIDE, "toDay", c, 5000, LAST_MONTH[c], LAST_MONTH_DAYS[c]);
            for (int year : new int[] {5001, -1, MAX, MIN, MAX - 1}) {
                x.refused(NONE, "toDay", c, year, 1, 1);
            }
        }
        x.due(0, "toDay", 2, 1, 1, 1).due(0, "toDay", 6, 0, 1, 1).due(365, "toDay", 2, 2, 1, 1);
        x.alike();
    }

    private static void datesThatAreThere() {
        Due.sentence(2, "A date is THERE, if its YEAR is one (FIRST .. 5000), has the MONTH, and that the day.",
            "NONE: it is not THERE;", "NONE -2 (there is none, as told)",
            "A CALENDAR has YEARS; a YEAR so many MONTHS (from 1 on); a MONTH so many days (from 1 on);");
        Twins x = new Twins();
        int[] months = {12, 12, 13, 12, 12, 52, 18};
        for (int c = 0; c <= 6; c++) {
            int year = c == 0 || c == 1 ? 4 : FIRST[c] + 1;
            int length = FIRST_MONTH_DAYS[c];
            int start = x.ask("toDay", c, year, 1, 1);
            x.due(start + length - 1, "toDay", c, year, 1, length);
            for (int day : new int[] {0, length + 1, -1, MAX, MIN}) {
                x.refused(NONE, "toDay", c, year, 1, day);
            }
            Due.yes("the last MONTH of YEAR " + year + " of " + c, x.ask("toDay", c, year, months[c], 1) > start);
            for (int month : new int[] {0, months[c] + 1, -1, MAX, MIN}) {
                x.refused(NONE, "toDay", c, year, month, 1);
            }
        }
        x.alike();
    }

    private static void refusalsOfToDayInOrder() {
        Due.sentence(2, "Refusals, of several the first one that the call names:", "What is refused changes nothing.");
        Twins x = town();
        x.tell("parish", 96, true).tell("feast", 0, 5, 5, 0, 3).tell("rule", 0, 0, 1, 1);
        x.tell("name", 3, 3, 33L).tell("load", 77, 3).tell("page", 0, 7, 1, 10);
        x.refused(BAD, "toDay", 8, 5001, 0, 0).refused(BAD, "toDay", -1, -1, 13, 99);
        // not THERE goes ahead of OUTSIDE: YEAR 5000 lies behind the range, and has no 30 2
        x.refused(NONE, "toDay", 0, 5000, 2, 29).refused(NONE, "toDay", 0, 5000, 13, 1);
        x.refused(NONE, "toDay", 0, 0, 2, 30).refused(NONE, "toDay", 5, 0, 1, 8);
        x.refused(OUTSIDE, "toDay", 0, 5000, 2, 28).refused(OUTSIDE, "toDay", 0, 0, 2, 29);
        x.alike();
    }

    private static void fromDayRefuses() {
        Due.sentence(3, "BAD: calendar, what;", "OUTSIDE;", "Of day n's date: 0 YEAR, 1 MONTH, 2 day,");
        Twins x = town();
        for (int c : NO_CALENDARS) {
            x.refused(BAD, "fromDay", c, 5, 0).refused(BAD, "fromDay", c, -1, 0);
        }
        for (int what : new int[] {-1, 5, MAX, MIN}) {
            for (int c = 0; c <= 7; c++) {
                x.refused(BAD, "fromDay", c, 110, what);
            }
            x.refused(BAD, "fromDay", 0, -1, what).refused(BAD, "fromDay", 7, LAST + 1, what);
        }
        for (int n : NO_DAYS) {
            for (int c = 0; c <= 7; c++) {
                for (int what = 0; what <= 4; what++) {
                    x.refused(OUTSIDE, "fromDay", c, n, what);
                }
            }
        }
        x.due(0, "fromDay", 0, 110, 4).due(1, "fromDay", 7, 110, 0).due(0, "fromDay", 7, 110, 4);
        x.alike();
    }

    private static void fromDayAtTheEndsOfTheRange() {
        Due.sentence(3, "DAYS have numbers 0 .. 1500000;");
        Twins x = new Twins();
        for (int c = 0; c <= 6; c++) {
            for (int what = 0; what <= 2; what++) {
                x.due(DAY_ZERO[c][what], "fromDay", c, 0, what);
                x.due(LAST_DATE[c][what], "fromDay", c, LAST, what);
            }
        }
        x.alike();
    }

    /** A MONTH's first day, and the date of the day ahead of it. */
    private static void turn(Twins x, int calendar, int n, int[] before, int[] behind) {
        for (int what = 0; what <= 2; what++) {
            x.due(before[what], "fromDay", calendar, n - 1, what);
            x.due(behind[what], "fromDay", calendar, n, what);
        }
        x.due(n - 1, "toDay", calendar, before[0], before[1], before[2]);
        x.due(n, "toDay", calendar, behind[0], behind[1], behind[2]);
    }

    private static void fromDayAtTheTurnOfAYear() {
        Due.sentence(3, "day follows day, MONTH MONTH, YEAR YEAR.");
        Twins x = new Twins();
        turn(x, 0, 306, new int[] {0, 12, 31}, new int[] {1, 1, 1});
        turn(x, 0, 1461, new int[] {4, 2, 29}, new int[] {4, 3, 1});
        turn(x, 0, 1499991, new int[] {4106, 12, 31}, new int[] {4107, 1, 1});
        turn(x, 1, 304, new int[] {0, 12, 31}, new int[] {1, 1, 1});
        turn(x, 2, 365, new int[] {1, 13, 5}, new int[] {2, 1, 1});
        turn(x, 2, 1096, new int[] {3, 13, 6}, new int[] {4, 1, 1});
        turn(x, 3, 354, new int[] {1, 12, 29}, new int[] {2, 1, 1});
        turn(x, 3, 709, new int[] {2, 12, 30}, new int[] {3, 1, 1});
        turn(x, 4, 355, new int[] {1, 12, 29}, new int[] {2, 1, 1});
        turn(x, 4, 1093, new int[] {3, 13, 29}, new int[] {4, 1, 1});
        turn(x, 5, 308, new int[] {0, 53, 7}, new int[] {1, 1, 1});
        turn(x, 5, 672, new int[] {1, 52, 7}, new int[] {2, 1, 1});
        turn(x, 6, 360, new int[] {0, 18, 20}, new int[] {1, 1, 1});
        turn(x, 6, 1499760, new int[] {4165, 18, 20}, new int[] {4166, 1, 1});
        turn(town(), 7, 153, new int[] {1, 10, 5}, new int[] {2, 1, 1});
        x.alike();
    }

    private static void weekdaysTurn() {
        Due.sentence(3, "WEEKDAYS 0 (Monday) .. 6: the number modulo 7.", "3 its WEEKDAY", "4 COUNT (CALENDAR 6; else 0).");
        Twins x = new Twins();
        for (int c = 0; c <= 5; c++) {
            x.due(0, "fromDay", c, 0, 3).due(6, "fromDay", c, 6, 3).due(0, "fromDay", c, 7, 3);
            x.due(5, "fromDay", c, LAST, 3).due(6, "fromDay", c, LAST - 6, 3);
            x.due(0, "fromDay", c, 0, 4).due(0, "fromDay", c, 10, 4).due(0, "fromDay", c, LAST, 4);
        }
        x.alike();
    }

    private static void namesAndCountsTurn() {
        Due.sentence(3, "The NAME of day n: the rest of n + 7 by 20; its COUNT: the rest of n + 3 by 13, and 1.",
            "(CALENDAR 6: NAME;");
        Twins x = new Twins();
        x.due(7, "fromDay", 6, 0, 3).due(19, "fromDay", 6, 12, 3).due(0, "fromDay", 6, 13, 3);
        x.due(7, "fromDay", 6, 20, 3).due(7, "fromDay", 6, LAST, 3);
        x.due(4, "fromDay", 6, 0, 4).due(13, "fromDay", 6, 9, 4).due(1, "fromDay", 6, 10, 4);
        x.due(12, "fromDay", 6, LAST, 4).due(11, "fromDay", 6, LAST - 1, 4);
        x.alike();
    }

    private static void townDaysTurn() {
        Due.sentence(3, "7: the rest by 10 of n less the first ROW's first day),");
        Twins x = town();
        x.due(0, "fromDay", 7, 103, 3).due(9, "fromDay", 7, 112, 3).due(0, "fromDay", 7, 113, 3);
        x.due(9, "fromDay", 7, 152, 3).due(0, "fromDay", 7, 153, 3).due(9, "fromDay", 7, 352, 3);
        x.due(0, "fromDay", 7, 352, 4).alike();
        new Twins().tell("row", LAST - 199, 200).due(0, "fromDay", 7, LAST - 199, 3).due(9, "fromDay", 7, LAST, 3).alike();
        new Twins().tell("row", 0, 1).due(0, "fromDay", 7, 0, 3).refused(NONE, "fromDay", 7, 1, 3).alike();
    }

    private static void daysWithoutARow() {
        Due.sentence(3, "NONE: no ROW has it.");
        Twins empty = new Twins();
        for (int what = 0; what <= 4; what++) {
            empty.refused(NONE, "fromDay", 7, 0, what).refused(NONE, "fromDay", 7, LAST, what);
        }
        empty.alike();
        Twins x = town();
        x.refused(NONE, "fromDay", 7, 102, 0).due(1, "fromDay", 7, 103, 2);
        x.due(200, "fromDay", 7, 352, 2).refused(NONE, "fromDay", 7, 353, 2);
        for (int what = 0; what <= 4; what++) {
            x.refused(NONE, "fromDay", 7, 0, what).refused(NONE, "fromDay", 7, LAST, what);
        }
        x.alike();
        Twins taken = town();
        taken.due(10, "undo").due(5, "fromDay", 7, 152, 2).refused(NONE, "fromDay", 7, 153, 2).alike();
    }

    private static void sunMonths() {
        Due.sentence(4, "0 FIRST 0; MONTHS of 31 28 31 30 31 30 31 31 30 31 30 31 days,", "1 likewise,", "How many days a MONTH has.");
        int[] lengths = {31, 28, 31, 30, 31, 30, 31, 31, 30, 31, 30, 31};
        Twins x = new Twins();
        for (int c = 0; c <= 1; c++) {
            for (int m = 1; m <= 12; m++) {
                x.due(lengths[m - 1], "monthLength", c, 1, m);
                x.due(lengths[m - 1] + (m == 2 ? 1 : 0), "monthLength", c, 0, m);
                x.refused(NONE, "toDay", c, 1, m, lengths[m - 1] + 1);
            }
        }
        x.alike();
    }

    private static void leapYears() {
        Due.sentence(4, "the second one 29 in LEAP years: each 4th, but not each 100th, but each 400th (0 is one).",
            "Its 1 3 0 (day, month, YEAR) is day 0.");
        Twins x = new Twins();
        int[] leap = {0, 4, 96, 104, 400, 1600, 1996, 2000, 2004, 2400, 4000, 4400, 4800, 4996};
        int[] common = {1, 2, 3, 5, 99, 100, 101, 200, 300, 399, 401, 1700, 1900, 2001, 2100, 4100, 4900, 4999, 5000};
        for (int year : leap) {
            x.due(29, "monthLength", 0, year, 2).due(366, "yearLength", 0, year);
        }
        for (int year : common) {
            x.due(28, "monthLength", 0, year, 2).due(365, "yearLength", 0, year);
        }
        x.due(0, "toDay", 0, 0, 3, 1).alike();
    }

    private static void oldLeapYears() {
        Due.sentence(4, "LEAP each 4th; its 3 3 0 is day 0.");
        Twins x = new Twins();
        for (int year : new int[] {0, 4, 100, 300, 400, 1900, 2000, 4900, 4996, 5000}) {
            x.due(29, "monthLength", 1, year, 2).due(366, "yearLength", 1, year);
        }
        for (int year : new int[] {1, 2, 3, 5, 99, 101, 1901, 4998, 4999}) {
            x.due(28, "monthLength", 1, year, 2).due(365, "yearLength", 1, year);
        }
        x.due(0, "toDay", 1, 0, 3, 3).alike();
    }

    private static void thirteenthMonths() {
        Due.sentence(4, "2 FIRST 1; 13 MONTHS, of 30 days, the last one of 5, in each 4th YEAR (3, 7, ..) of 6. Its 1 1 1 is day 0.");
        Twins x = new Twins();
        for (int m = 1; m <= 12; m++) {
            x.due(30, "monthLength", 2, 3, m).due(30, "monthLength", 2, 4, m).due(30, "monthLength", 2, 5000, m);
        }
        for (int year : new int[] {3, 7, 11, 99, 103, 1999, 4995, 4999}) {
            x.due(6, "monthLength", 2, year, 13).due(366, "yearLength", 2, year).due(13, "months", 2, year);
        }
        for (int year : new int[] {1, 2, 4, 5, 6, 8, 100, 4996, 4998, 5000}) {
            x.due(5, "monthLength", 2, year, 13).due(365, "yearLength", 2, year).due(13, "months", 2, year);
        }
        x.due(1095, "toDay", 2, 3, 13, 6).refused(NONE, "toDay", 2, 3, 13, 7);
        x.refused(NONE, "toDay", 2, 4, 13, 6).refused(NONE, "monthLength", 2, 3, 14);
        x.refused(NONE, "monthLength", 2, 0, 1).due(0, "toDay", 2, 1, 1, 1).alike();
    }

    private static void tabledMoons() {
        Due.sentence(4, "3 FIRST 1; 12 MONTHS, of 30 and 29 days by turns; in YEARS that are 2, 5, 7, 10, 13, 16, 18, 21, 24, 26"
            + " or 29 more than a multiple of 30 the last one of 30. Its 1 1 1 is day 0.");
        Twins x = new Twins();
        for (int m = 1; m <= 11; m++) {
            x.due(m % 2 == 1 ? 30 : 29, "monthLength", 3, 1, m).due(m % 2 == 1 ? 30 : 29, "monthLength", 3, 2, m);
        }
        String more = " 2 5 7 10 13 16 18 21 24 26 29 ";
        for (int rest = 0; rest < 30; rest++) {
            boolean has = more.contains(" " + rest + " ");
            for (int year : new int[] {rest, 30 + rest, 1500 + rest, 4950 + rest}) {
                if (year >= 1) {
                    x.due(has ? 30 : 29, "monthLength", 3, year, 12).due(has ? 355 : 354, "yearLength", 3, year);
                }
            }
        }
        x.due(29, "monthLength", 3, 5000, 12).due(30, "monthLength", 3, 4998, 12);
        x.refused(NONE, "monthLength", 3, 2, 13).refused(NONE, "monthLength", 3, 0, 12);
        x.due(0, "toDay", 3, 1, 1, 1).due(10631, "toDay", 3, 31, 1, 1).alike();
    }

    private static void longYears() {
        Due.sentence(6, "4 FIRST 1; a YEAR y is LONG if the rest of 7 y + 1 by 19 is below 7.", "It has 12 MONTHS, a LONG one 13:");
        Twins x = new Twins();
        String isLong = " 3 6 8 11 14 17 0 ";
        for (int year = 1; year <= 38; year++) {
            int months = isLong.contains(" " + year % 19 + " ") ? 13 : 12;
            x.due(months, "months", 4, year);
            x.refused(NONE, "monthLength", 4, year, months + 1);
        }
        x.due(13, "months", 4, 5000).due(12, "months", 4, 4999).due(13, "months", 4, 4997).due(12, "months", 4, 1);
        x.refused(NONE, "months", 4, 0).refused(NONE, "months", 4, 5001).alike();
    }

    private static void countedYearStarts() {
        Due.sentence(5, "With M = (235 y - 234) / 19 (cut) E(y) is 29 M + (12084 + 13753 M) / 25920 (cut), and 1 more, if the rest"
            + " of three times (that and 1) by 7 is below 3. K(y) is 2 if E(y + 1) - E(y) is 356, else 1 if y is above 1 and"
            + " E(y) - E(y - 1) is 382, else 0. The YEAR begins on day E(y) + K(y) (YEAR 1 on day 0), and ends ahead of the"
            + " next one.");
        Twins x = new Twins();
        x.due(0, "toDay", 4, 1, 1, 1);
        int start = 0;
        for (int year = 1; year <= 5000; year++) {
            int days = begin(year + 1) - begin(year);
            x.due(days, "yearLength", 4, year);
            if (start <= LAST) {
                x.due(start, "toDay", 4, year, 1, 1);
            } else {
                x.refused(OUTSIDE, "toDay", 4, year, 1, 1);
            }
            start += days;
        }
        x.due(355, "toDay", 4, 2, 1, 1).due(383, "yearLength", 4, 5000).alike();
    }

    private static long elapsed(long y) {
        long moons = (235 * y - 234) / 19;
        long days = 29 * moons + (12084 + 13753 * moons) / 25920;
        return days + ((days + 1) * 3 % 7 < 3 ? 1 : 0);
    }

    private static int begin(int y) {
        int more = elapsed(y + 1) - elapsed(y) == 356 ? 2 : y > 1 && elapsed(y) - elapsed(y - 1) == 382 ? 1 : 0;
        return (int) elapsed(y) + more;
    }

    private static void countedMonths() {
        Due.sentence(4, "of 30, 29, 30, 29, 30, 29, 30, 29, .. days; a LONG one of 30, 29, 30, 29, 30, 30, 29, 30, 29, .., but:"
            + " with 355 or 385 days the second one has 30, with 353 or 383 the third one 29.");
        // the first and the last YEAR of each length
        int[][] years = {{15, 4996, 353}, {4, 4994, 354}, {1, 4999, 355}, {3, 5000, 383}, {27, 4997, 384}, {6, 4995, 385}};
        Twins x = new Twins();
        for (int[] of : years) {
            int[] plain = {30, 29, 30, 29, 30, 29, 30, 29, 30, 29, 30, 29};
            int[] longer = {30, 29, 30, 29, 30, 30, 29, 30, 29, 30, 29, 30, 29};
            int[] lengths = of[2] > 380 ? longer : plain;
            if (of[2] % 10 == 5) {
                lengths[1] = 30;
            }
            if (of[2] % 10 == 3) {
                lengths[2] = 29;
            }
            for (int i = 0; i < 2; i++) {
                x.due(of[2], "yearLength", 4, of[i]).due(lengths.length, "months", 4, of[i]);
                for (int m = 1; m <= lengths.length; m++) {
                    x.due(lengths[m - 1], "monthLength", 4, of[i], m);
                }
            }
        }
        x.alike();
    }

    private static void weeksOfAYear() {
        Due.sentence(6, "5 FIRST 0; MONTHS are weeks of 7 days from Monday on; each belongs to the YEAR of CALENDAR 0 in which its"
            + " Thursday is; the first one is 1.", "How many MONTHS a YEAR has.");
        Twins x = new Twins();
        for (int year : new int[] {0, 5, 11, 4985, 4991, 4996}) {
            x.due(53, "months", 5, year).due(371, "yearLength", 5, year).due(7, "monthLength", 5, year, 53);
            x.refused(NONE, "monthLength", 5, year, 54).refused(NONE, "monthLength", 5, year, 0);
        }
        for (int year : new int[] {1, 2, 3, 4, 6, 4997, 4999, 5000}) {
            x.due(52, "months", 5, year).due(364, "yearLength", 5, year).due(7, "monthLength", 5, year, 52);
            x.refused(NONE, "monthLength", 5, year, 53);
        }
        // 1 1 5 is day 1767, a Thursday: its week is the first one of YEAR 5, though it begins in YEAR 4
        x.due(3, "fromDay", 0, 1767, 3).due(5, "fromDay", 0, 1767, 0).due(1764, "toDay", 5, 5, 1, 1);
        x.due(4, "fromDay", 0, 1764, 0).due(5, "fromDay", 5, 1764, 0).due(1, "fromDay", 5, 1764, 1);
        // 1 1 6 is day 2132, a Friday: its week is the last one of YEAR 5
        x.due(4, "fromDay", 0, 2132, 3).due(6, "fromDay", 0, 2132, 0).due(5, "fromDay", 5, 2132, 0);
        x.due(53, "fromDay", 5, 2132, 1).due(2135, "toDay", 5, 6, 1, 1);
        // 1 1 1 is day 306, a Saturday: its week is the last one of YEAR 0
        x.due(1, "fromDay", 0, 306, 0).due(0, "fromDay", 5, 306, 0).due(53, "fromDay", 5, 306, 1);
        x.alike();
    }

    private static void theRound() {
        Due.sentence(6, "6 FIRST 0; 18 MONTHS of 20 days; its 1 1 0 is day 0.");
        Twins x = new Twins();
        for (int year : new int[] {0, 1, 4166, 5000}) {
            x.due(18, "months", 6, year).due(360, "yearLength", 6, year);
            x.due(20, "monthLength", 6, year, 1).due(20, "monthLength", 6, year, 18);
            x.refused(NONE, "monthLength", 6, year, 19).refused(NONE, "monthLength", 6, year, 0);
        }
        x.due(19, "toDay", 6, 0, 1, 20).refused(NONE, "toDay", 6, 0, 1, 21).due(0, "toDay", 6, 0, 1, 1);
        x.refused(NONE, "months", 6, -1).alike();
    }

    private static void townYears() {
        Due.sentence(6, "7 FIRST 1; the MONTHS are ROWS that were laid down, each behind the one before; ten of them a YEAR (the last"
            + " YEAR has as many as there are).");
        Twins x = new Twins();
        x.refused(NONE, "months", 7, 1).refused(NONE, "months", 7, 0).refused(NONE, "toDay", 7, 1, 1, 1);
        for (int i = 0; i < 21; i++) {
            x.tell("row", 7 * i, 7);
            int full = i / 10;
            x.due(i % 10 + 1, "months", 7, full + 1).refused(NONE, "months", 7, full + 2);
            x.due(7 * i, "toDay", 7, full + 1, i % 10 + 1, 1).refused(NONE, "toDay", 7, full + 1, i % 10 + 2, 1);
            if (full > 0) {
                x.due(10, "months", 7, full);
            }
        }
        for (int year : new int[] {0, -1, 4, 50, 51, 5000, 5001, MAX, MIN}) {
            x.refused(NONE, "months", 7, year).refused(NONE, "yearLength", 7, year).refused(NONE, "monthLength", 7, year, 1);
        }
        x.refused(NONE, "toDay", 7, 1, 11, 1).refused(NONE, "toDay", 7, 1, 0, 1).refused(NONE, "toDay", 7, 1, 1, 8);
        x.alike();
    }

    private static void monthLengthRefuses() {
        Due.sentence(4, "BAD; NONE: no such YEAR, MONTH.");
        Twins x = town();
        for (int c : NO_CALENDARS) {
            x.refused(BAD, "monthLength", c, 1, 1).refused(BAD, "monthLength", c, 5001, 0);
        }
        for (int c = 0; c <= 6; c++) {
            x.due(FIRST_MONTH_DAYS[c], "monthLength", c, FIRST[c], 1);
            x.due(LAST_MONTH_DAYS[c], "monthLength", c, 5000, LAST_MONTH[c]);
            for (int year : new int[] {FIRST[c] - 1, 5001, MAX, MIN}) {
                x.refused(NONE, "monthLength", c, year, 1);
            }
            for (int month : new int[] {0, LAST_MONTH[c] + 1, -1, MAX, MIN}) {
                x.refused(NONE, "monthLength", c, 5000, month);
            }
        }
        x.due(5, "monthLength", 7, 1, 10).due(200, "monthLength", 7, 2, 1);
        x.refused(NONE, "monthLength", 7, 1, 11).refused(NONE, "monthLength", 7, 2, 2).refused(NONE, "monthLength", 7, 1, 0);
        x.refused(NONE, "monthLength", 7, 0, 1).refused(NONE, "monthLength", 7, 3, 1).refused(NONE, "monthLength", 7, MAX, MAX);
        x.alike();
    }

    private static void yearLengthRefuses() {
        Due.sentence(5, "BAD; NONE: no such YEAR.", "How many days a YEAR has (of CALENDAR 7 those of its ROWS).");
        Twins x = town();
        for (int c : NO_CALENDARS) {
            x.refused(BAD, "yearLength", c, 1).refused(BAD, "yearLength", c, 5001);
        }
        int[] first = {366, 366, 365, 354, 355, 371, 360};
        int[] last = {365, 366, 365, 354, 383, 364, 360};
        for (int c = 0; c <= 6; c++) {
            x.due(first[c], "yearLength", c, FIRST[c]).due(last[c], "yearLength", c, 5000);
            for (int year : new int[] {FIRST[c] - 1, 5001, -1, MAX, MIN}) {
                x.refused(NONE, "yearLength", c, year);
            }
        }
        x.due(50, "yearLength", 7, 1).due(200, "yearLength", 7, 2);
        x.refused(NONE, "yearLength", 7, 0).refused(NONE, "yearLength", 7, 3);
        x.tell("row", 353, 1).due(201, "yearLength", 7, 2).due(11, "undo").due(200, "yearLength", 7, 2);
        x.alike();
    }

    private static void monthsRefuses() {
        Due.sentence(6, "BAD; NONE.");
        Twins x = town();
        for (int c : NO_CALENDARS) {
            x.refused(BAD, "months", c, 1).refused(BAD, "months", c, 5001);
        }
        for (int c = 0; c <= 6; c++) {
            x.due(LAST_MONTH[c], "months", c, 5000);
            for (int year : new int[] {FIRST[c] - 1, 5001, -1, MAX, MIN}) {
                x.refused(NONE, "months", c, year);
            }
        }
        x.due(12, "months", 0, 0).due(12, "months", 1, 0).due(13, "months", 2, 1).due(12, "months", 3, 1);
        x.due(10, "months", 7, 1).due(1, "months", 7, 2).refused(NONE, "months", 7, 3).refused(NONE, "months", 7, 0);
        x.alike();
    }
}
