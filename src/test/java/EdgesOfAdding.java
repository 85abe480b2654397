/** The edges of promises 7 to 10: adding, differences, anniversaries. */
final class EdgesOfAdding {
    private static final int LAST = 1500000;
    private static final int MAX = Integer.MAX_VALUE, MIN = Integer.MIN_VALUE;
    private static final int BAD = AlmanacHouse.BAD, NONE = AlmanacHouse.NONE, OUTSIDE = AlmanacHouse.OUTSIDE;
    private static final int[] NO_CALENDARS = {-1, 8, MAX, MIN};
    private static final int[] NO_DAYS = {-1, LAST + 1, MAX, MIN};
    private static final int[] TOWN_DAYS = {30, 10, 20, 5, 40, 1, 7, 8, 9, 10, 3, 50};

    private EdgesOfAdding() { }

    static void run() {
        mostMonths();
        addMonthsRefusesDays();
        monthsAreCut();
        monthsTurn();
        monthsTurnInEveryYear();
        monthsThatAreNotThere();
        monthsBeyondTheRange();
        mostYears();
        addYearsRefusesDays();
        yearsAreCut();
        yearsThatAreNotThere();
        yearsBeyondTheRange();
        wholeYears();
        wholeMonths();
        daysLeft();
        countedUpToTheEnd();
        differenceRefuses();
        birthdayRefuses();
        birthdaysAreTheFirst();
        birthdaysWithinTheRange();
        birthdaysThatAreNone();
    }

    /** Twelve ROWS: YEAR 1 is 2000 .. 2139, of YEAR 2 there are 2140 .. 2142 and 2143 .. 2192. */
    private static Twins town() {
        Twins x = new Twins();
        int first = 2000;
        for (int days : TOWN_DAYS) {
            x.tell("row", first, days);
            first += days;
        }
        return x;
    }

    private static void mostMonths() {
        Due.sentence(7, "k MONTHS (-60000 .. 60000) are added to day n: its number.", "BAD: calendar, k;");
        Twins x = town();
        x.due(420000, "addMonths", 5, 0, 60000).due(0, "addMonths", 5, 420000, -60000);
        x.due(1200000, "addMonths", 6, 0, 60000).due(0, "addMonths", 6, 1200000, -60000);
        x.due(419993, "addMonths", 5, 0, 59999).due(7, "addMonths", 5, 420000, -59999);
        for (int c = 0; c <= 7; c++) {
            for (int k : new int[] {60001, -60001, MAX, MIN}) {
                x.refused(BAD, "addMonths", c, 2000, k).refused(BAD, "addMonths", c, -1, k);
            }
            x.due(2000, "addMonths", c, 2000, 0);
        }
        for (int c : NO_CALENDARS) {
            x.refused(BAD, "addMonths", c, 2000, 0).refused(BAD, "addMonths", c, -1, 60001);
        }
        x.alike();
    }

    private static void addMonthsRefusesDays() {
        Due.sentence(7, "OUTSIDE: n;", "NONE: n has no date (CALENDAR 7);");
        Twins x = town();
        for (int n : NO_DAYS) {
            for (int c = 0; c <= 7; c++) {
                x.refused(OUTSIDE, "addMonths", c, n, 0).refused(OUTSIDE, "addMonths", c, n, 60000);
            }
        }
        for (int c = 0; c <= 6; c++) {
            x.due(0, "addMonths", c, 0, 0).due(LAST, "addMonths", c, LAST, 0);
        }
        x.due(2000, "addMonths", 7, 2000, 0).due(2192, "addMonths", 7, 2192, 0);
        for (int n : new int[] {0, 1999, 2193, LAST}) {
            for (int k : new int[] {0, 1, -1, 60000, -60000}) {
                x.refused(NONE, "addMonths", 7, n, k);
            }
        }
        x.alike();
        new Twins().refused(NONE, "addMonths", 7, 0, 0).refused(OUTSIDE, "addMonths", 7, -1, 0).alike();
    }

    private static void monthsAreCut() {
        Due.sentence(7, "To add k MONTHS: the MONTH k further on (or back), day by day as told of that.");
        Twins x = town();
        x.due(Dates.dayOf(2001, 2, 28), "addMonths", 0, Dates.dayOf(2001, 1, 28), 1);
        for (int day = 29; day <= 31; day++) {
            x.due(Dates.dayOf(2001, 2, 28), "addMonths", 0, Dates.dayOf(2001, 1, day), 1);
            x.due(Dates.dayOf(2000, 2, 29), "addMonths", 0, Dates.dayOf(2000, 1, day), 1);
            x.due(Dates.dayOf(2001, 2, 28), "addMonths", 0, Dates.dayOf(2001, 3, day), -1);
            x.due(Dates.dayOf(2001, 2, 28), "addMonths", 0, Dates.dayOf(2000, 12, day), 2);
        }
        x.due(Dates.dayOf(2001, 4, 30), "addMonths", 0, Dates.dayOf(2001, 3, 31), 1);
        x.due(Dates.dayOf(2001, 3, 30), "addMonths", 0, Dates.dayOf(2001, 4, 30), -1);
        // the thirteenth MONTH of YEAR 3 has six days, that of YEAR 4 five; it begins on days 1090 and 1456
        for (int day = 1; day <= 30; day++) {
            x.due(1090 + Math.min(day, 6) - 1, "addMonths", 2, 1060 + day - 1, 1);
            x.due(1456 + Math.min(day, 5) - 1, "addMonths", 2, 1426 + day - 1, 1);
        }
        // the twelfth MONTH of YEAR 1 has 29 days, that of YEAR 2 has 30
        x.due(353, "addMonths", 3, 324, 1).due(708, "addMonths", 3, 678, 1);
        x.due(353, "addMonths", 3, 323, 1).due(352, "addMonths", 3, 322, 1);
        // the second MONTH of YEAR 4 of 354 days has 29
        x.due(1093 + 58, "addMonths", 4, 1093 + 29, 1).due(59, "addMonths", 4, 29, 1);
        x.due(2039, "addMonths", 7, 2029, 1).due(2039, "addMonths", 7, 2009, 1).due(2038, "addMonths", 7, 2008, 1);
        x.due(2105, "addMonths", 7, 2104, 1).due(2172, "addMonths", 7, 2029, 11);
        x.alike();
    }

    private static void monthsTurn() {
        Due.sentence(7, "day follows day, MONTH MONTH, YEAR YEAR.");
        Twins x = town();
        x.due(Dates.dayOf(2001, 1, 1), "addMonths", 0, Dates.dayOf(2000, 12, 1), 1);
        x.due(Dates.dayOf(2000, 12, 1), "addMonths", 0, Dates.dayOf(2001, 1, 1), -1);
        x.due(Dates.dayOf(2002, 1, 1), "addMonths", 0, Dates.dayOf(2001, 1, 1), 12);
        x.due(Dates.dayOf(1999, 12, 31), "addMonths", 0, Dates.dayOf(2001, 1, 31), -13);
        x.due(365, "addMonths", 2, 360, 1).due(360, "addMonths", 2, 365, -1).due(365, "addMonths", 2, 0, 13);
        x.due(354, "addMonths", 3, 325, 1).due(325, "addMonths", 3, 354, -1);
        // YEAR 3 of 4 has thirteen MONTHS, and YEAR 2 twelve
        x.due(1093, "addMonths", 4, 1064, 1).due(1064, "addMonths", 4, 1093, -1).due(1093, "addMonths", 4, 710, 13);
        x.due(710, "addMonths", 4, 355, 12).due(355, "addMonths", 4, 710, -12);
        // week 53 of YEAR 0 goes ahead of week 1 of YEAR 1, week 52 of YEAR 1 ahead of that of YEAR 2
        x.due(308, "addMonths", 5, 301, 1).due(301, "addMonths", 5, 308, -1).due(672, "addMonths", 5, 665, 1);
        x.due(360, "addMonths", 6, 340, 1).due(340, "addMonths", 6, 360, -1);
        x.due(2140, "addMonths", 7, 2130, 1).due(2130, "addMonths", 7, 2140, -1).due(2143, "addMonths", 7, 2000, 11);
        x.alike();
    }

    private static void monthsTurnInEveryYear() {
        Due.sentence(7, "day follows day, MONTH MONTH, YEAR YEAR.");
        Twins x = new Twins();
        int[] first = {1, 1, 1, 1, 1, 1, 0};
        int[] last = {4106, 4105, 4106, 4232, 4106, 4106, 4165};
        for (int c = 0; c <= 6; c++) {
            for (int year = first[c]; year <= last[c]; year++) {
                int months = x.ask("months", c, year);
                int end = x.ask("toDay", c, year, months, 1);
                int start = x.ask("toDay", c, year + 1, 1, 1);
                x.due(start, "addMonths", c, end, 1).due(end, "addMonths", c, start, -1);
                x.due(start, "addMonths", c, x.ask("toDay", c, year, 1, 1), months);
            }
        }
        x.alike();
    }

    private static void monthsThatAreNotThere() {
        Due.sentence(7, "OUTSIDE: a YEAR, a MONTH that is not there, what comes.");
        Twins x = town();
        int[] second = {0, 0, 30, 30, 30, 0, 20};
        for (int c : new int[] {2, 3, 4, 6}) {
            x.due(0, "addMonths", c, second[c], -1).refused(OUTSIDE, "addMonths", c, second[c], -2);
            x.refused(OUTSIDE, "addMonths", c, second[c] - 1, -1).refused(OUTSIDE, "addMonths", c, 0, -1);
        }
        // from the last day to the last MONTH of YEAR 5000, to the first one of no YEAR, and as far as can be
        int[] toLast = {10727, 10728, 11612, 9205, 11047, 46645, 15017};
        for (int c = 0; c <= 6; c++) {
            for (int k : new int[] {toLast[c] - 1, toLast[c], toLast[c] + 1, 60000}) {
                x.refused(OUTSIDE, "addMonths", c, LAST, k);
            }
            x.refused(OUTSIDE, "addMonths", c, 0, -60000).refused(OUTSIDE, "addMonths", c, 0, -1);
        }
        x.due(2143, "addMonths", 7, 2000, 11).refused(OUTSIDE, "addMonths", 7, 2000, 12);
        x.due(2000, "addMonths", 7, 2143, -11).refused(OUTSIDE, "addMonths", 7, 2143, -12);
        x.refused(OUTSIDE, "addMonths", 7, 2000, -1).refused(OUTSIDE, "addMonths", 7, 2192, 1);
        x.refused(OUTSIDE, "addMonths", 7, 2000, 60000).refused(OUTSIDE, "addMonths", 7, 2192, -60000);
        x.alike();
    }

    private static void monthsBeyondTheRange() {
        Due.sentence(7, "DAYS have numbers 0 .. 1500000;");
        Twins x = new Twins();
        // 10 1 4107 is the last day, 1 3 0 the first one
        x.due(LAST, "addMonths", 0, 9, 49282).refused(OUTSIDE, "addMonths", 0, 10, 49282);
        x.due(9, "addMonths", 0, LAST, -49282).refused(OUTSIDE, "addMonths", 0, LAST, -49283);
        x.due(0, "addMonths", 0, 31, -1).refused(OUTSIDE, "addMonths", 0, 30, -1).refused(OUTSIDE, "addMonths", 0, 31, -2);
        x.due(LAST, "addMonths", 0, LAST - 31, 1).refused(OUTSIDE, "addMonths", 0, LAST - 30, 1);
        // 3 3 0 and 12 12 4106
        x.due(0, "addMonths", 1, 31, -1).refused(OUTSIDE, "addMonths", 1, 30, -1);
        x.due(LAST, "addMonths", 1, LAST - 30, 1).refused(OUTSIDE, "addMonths", 1, LAST - 29, 1);
        x.due(LAST, "addMonths", 2, LAST - 30, 1).refused(OUTSIDE, "addMonths", 2, LAST - 29, 1);
        x.due(0, "addMonths", 5, 7, -1).refused(OUTSIDE, "addMonths", 5, 6, -1);
        x.due(LAST, "addMonths", 5, LAST - 7, 1).refused(OUTSIDE, "addMonths", 5, LAST - 6, 1);
        x.due(LAST, "addMonths", 6, 300000, 60000).refused(OUTSIDE, "addMonths", 6, 300001, 60000);
        x.alike();
    }

    private static void mostYears() {
        Due.sentence(8, "k YEARS (-5000 .. 5000) are added to day n.");
        Twins x = town();
        for (int c = 0; c <= 7; c++) {
            x.refused(OUTSIDE, "addYears", c, 2000, 5000).refused(OUTSIDE, "addYears", c, 2000, -5000);
            for (int k : new int[] {5001, -5001, MAX, MIN}) {
                x.refused(BAD, "addYears", c, 2000, k).refused(BAD, "addYears", c, -1, k);
            }
            x.due(2000, "addYears", c, 2000, 0);
        }
        for (int c : NO_CALENDARS) {
            x.refused(BAD, "addYears", c, 2000, 0).refused(BAD, "addYears", c, -1, 5001);
        }
        x.alike();
    }

    private static void addYearsRefusesDays() {
        Due.sentence(8, "As addMonths().");
        Twins x = town();
        for (int n : NO_DAYS) {
            for (int c = 0; c <= 7; c++) {
                x.refused(OUTSIDE, "addYears", c, n, 0).refused(OUTSIDE, "addYears", c, n, 5000);
            }
        }
        for (int c = 0; c <= 6; c++) {
            x.due(0, "addYears", c, 0, 0).due(LAST, "addYears", c, LAST, 0);
        }
        x.due(2000, "addYears", 7, 2000, 0).due(2192, "addYears", 7, 2192, 0);
        for (int n : new int[] {0, 1999, 2193, LAST}) {
            for (int k : new int[] {0, 1, -1, 5000, -5000}) {
                x.refused(NONE, "addYears", 7, n, k);
            }
        }
        x.alike();
        new Twins().refused(NONE, "addYears", 7, 0, 0).refused(OUTSIDE, "addYears", 7, -1, 0).alike();
    }

    private static void yearsAreCut() {
        Due.sentence(8, "To add k YEARS to a day (by a CALENDAR): its date with the YEAR k more; if that has not so many MONTHS, its last"
            + " one; if that has not so many days, its last one.");
        Twins x = town();
        int leapDay = Dates.dayOf(2000, 2, 29);
        x.due(Dates.dayOf(2001, 2, 28), "addYears", 0, leapDay, 1).due(Dates.dayOf(1999, 2, 28), "addYears", 0, leapDay, -1);
        x.due(Dates.dayOf(2004, 2, 29), "addYears", 0, leapDay, 4).due(Dates.dayOf(2100, 2, 28), "addYears", 0, leapDay, 100);
        x.due(Dates.dayOf(2001, 2, 28), "addYears", 0, Dates.dayOf(2000, 2, 28), 1);
        x.due(Dates.dayOf(2000, 2, 28), "addYears", 0, Dates.dayOf(2001, 2, 28), -1);
        // 6 13 3, 5 13 4 and 6 13 7
        x.due(1460, "addYears", 2, 1095, 1).due(2556, "addYears", 2, 1095, 4).due(1094, "addYears", 2, 1460, -1);
        // 30 12 2 and 29 12 1, 29 12 3
        x.due(353, "addYears", 3, 708, -1).due(1062, "addYears", 3, 708, 1);
        // 29 13 3, 29 12 4, 29 12 2, 29 13 6; then 1 13 3, 1 12 3 and 1 11 3
        x.due(1446, "addYears", 4, 1092, 1).due(709, "addYears", 4, 1092, -1).due(2186, "addYears", 4, 1092, 3);
        x.due(1418, "addYears", 4, 1064, 1).due(1418, "addYears", 4, 1034, 1).due(1388, "addYears", 4, 1005, 1);
        // week 53 of YEAR 0, weeks 52 of YEARS 1 and 4, week 53 of YEAR 5
        x.due(665, "addYears", 5, 301, 1).due(1757, "addYears", 5, 301, 4).due(2128, "addYears", 5, 301, 5);
        // MONTHS 1 and 2 of YEAR 2 are there, of 3 and 50 days
        x.due(2142, "addYears", 7, 2029, 1).due(2142, "addYears", 7, 2002, 1).due(2141, "addYears", 7, 2001, 1);
        x.due(2152, "addYears", 7, 2039, 1).due(2143, "addYears", 7, 2130, 1).due(2162, "addYears", 7, 2059, 1);
        x.due(2039, "addYears", 7, 2192, -1).due(2002, "addYears", 7, 2142, -1);
        x.alike();
    }

    private static void yearsThatAreNotThere() {
        Due.sentence(8, "YEARS are numbers up to 5000, from FIRST on.");
        Twins x = town();
        int[] third = {0, 0, 730, 709, 710, 0, 720};
        int[] second = {0, 0, 365, 354, 355, 0, 360};
        for (int c : new int[] {2, 3, 4, 6}) {
            x.due(second[c], "addYears", c, third[c], -1).due(0, "addYears", c, third[c], -2);
            x.refused(OUTSIDE, "addYears", c, third[c], -3).refused(OUTSIDE, "addYears", c, 0, -1);
        }
        int[] lastYear = {4107, 4106, 4107, 4233, 4107, 4107, 4166};
        for (int c = 0; c <= 6; c++) {
            for (int k = 5000 - lastYear[c] - 1; k <= 5000 - lastYear[c] + 1; k++) {
                x.refused(OUTSIDE, "addYears", c, LAST, k);
            }
            for (int k = -lastYear[c] - 1; k <= -lastYear[c]; k++) {
                if (c != 1 && c != 6 || k < -lastYear[c]) {
                    x.refused(OUTSIDE, "addYears", c, LAST, k);
                }
            }
        }
        x.due(284, "addYears", 1, LAST, -4106).due(240, "addYears", 6, LAST, -4166);
        x.due(284, "addYears", 2, LAST, -4106).due(320, "addYears", 3, LAST, -4232).due(318, "addYears", 4, LAST, -4106);
        x.due(2140, "addYears", 7, 2000, 1).refused(OUTSIDE, "addYears", 7, 2000, 2);
        x.due(2000, "addYears", 7, 2140, -1).refused(OUTSIDE, "addYears", 7, 2140, -2);
        x.refused(OUTSIDE, "addYears", 7, 2000, -1).refused(OUTSIDE, "addYears", 7, 2140, 1);
        x.alike();
    }

    private static void yearsBeyondTheRange() {
        Due.sentence(8, "DAYS have numbers 0 .. 1500000;");
        Twins x = new Twins();
        // 1 3 1 and 28 2 1; 10 1 4106 and 11 1 4106
        x.due(0, "addYears", 0, 365, -1).refused(OUTSIDE, "addYears", 0, 364, -1);
        x.due(LAST, "addYears", 0, LAST - 365, 1).refused(OUTSIDE, "addYears", 0, LAST - 364, 1);
        x.due(LAST, "addYears", 0, 315, 4106).refused(OUTSIDE, "addYears", 0, 316, 4106);
        x.due(315, "addYears", 0, LAST, -4106).refused(OUTSIDE, "addYears", 0, LAST, -4107);
        x.due(0, "addYears", 1, 365, -1).refused(OUTSIDE, "addYears", 1, 364, -1);
        x.due(LAST, "addYears", 1, LAST - 365, 1).refused(OUTSIDE, "addYears", 1, LAST - 364, 1);
        x.due(LAST, "addYears", 6, LAST - 360, 1).refused(OUTSIDE, "addYears", 6, LAST - 359, 1);
        x.due(0, "addYears", 6, 360, -1).refused(OUTSIDE, "addYears", 6, 359, -1);
        // week 10 of YEAR 1 is the first one that has its like in the range
        x.due(0, "addYears", 5, 371, -1).refused(OUTSIDE, "addYears", 5, 370, -1);
        x.alike();
    }

    private static void difference(Twins x, int calendar, int a, int b, int years, int months, int days) {
        x.due(years, "difference", calendar, a, b, 0);
        x.due(months, "difference", calendar, a, b, 1);
        x.due(days, "difference", calendar, a, b, 2);
    }

    private static void wholeYears() {
        Due.sentence(9, "From day a to day b: 0 the most YEARS (0 or more) that, added to a, do not come behind b;");
        Twins x = town();
        int day = Dates.dayOf(2001, 5, 6);
        difference(x, 0, day, Dates.dayOf(2002, 5, 5), 0, 11, 29);
        difference(x, 0, day, Dates.dayOf(2002, 5, 6), 1, 0, 0);
        difference(x, 0, day, Dates.dayOf(2002, 5, 7), 1, 0, 1);
        difference(x, 0, Dates.dayOf(2000, 2, 29), Dates.dayOf(2001, 2, 27), 0, 11, 29);
        difference(x, 0, Dates.dayOf(2000, 2, 29), Dates.dayOf(2001, 2, 28), 1, 0, 0);
        difference(x, 4, 1092, 1445, 0, 11, 29);
        difference(x, 4, 1092, 1446, 1, 0, 0);
        difference(x, 5, 301, 664, 0, 51, 6);
        difference(x, 5, 301, 665, 1, 0, 0);
        difference(x, 6, 0, 359, 0, 17, 19);
        difference(x, 6, 0, 360, 1, 0, 0);
        difference(x, 7, 2000, 2139, 0, 9, 9);
        difference(x, 7, 2000, 2140, 1, 0, 0);
        x.alike();
    }

    private static void wholeMonths() {
        Due.sentence(9, "1 the most MONTHS that, added to what comes of that, do not;");
        Twins x = town();
        difference(x, 0, Dates.dayOf(2001, 1, 31), Dates.dayOf(2001, 2, 27), 0, 0, 27);
        difference(x, 0, Dates.dayOf(2001, 1, 31), Dates.dayOf(2001, 2, 28), 0, 1, 0);
        difference(x, 0, Dates.dayOf(2001, 1, 31), Dates.dayOf(2001, 3, 30), 0, 1, 30);
        difference(x, 0, Dates.dayOf(2001, 1, 31), Dates.dayOf(2001, 3, 31), 0, 2, 0);
        // what comes of a YEAR is 28 2 2001, so 28 3 2001 is a MONTH more
        difference(x, 0, Dates.dayOf(2000, 2, 29), Dates.dayOf(2001, 3, 27), 1, 0, 27);
        difference(x, 0, Dates.dayOf(2000, 2, 29), Dates.dayOf(2001, 3, 28), 1, 1, 0);
        // of 29 13 3 comes 29 12 4, and a MONTH more is 29 1 5
        difference(x, 4, 1092, 1474, 1, 0, 28);
        difference(x, 4, 1092, 1475, 1, 1, 0);
        difference(x, 2, 1089, 1094, 0, 0, 5);
        difference(x, 2, 1089, 1095, 0, 1, 0);
        difference(x, 7, 2029, 2038, 0, 0, 9);
        difference(x, 7, 2029, 2039, 0, 1, 0);
        // 2142 comes of a YEAR, on its third day: a MONTH more is 2145, not 2172
        difference(x, 7, 2029, 2144, 1, 0, 2);
        difference(x, 7, 2029, 2145, 1, 1, 0);
        x.alike();
    }

    private static void daysLeft() {
        Due.sentence(9, "2 how many days are left.");
        Twins x = town();
        for (int c = 0; c <= 6; c++) {
            difference(x, c, 0, 0, 0, 0, 0);
            difference(x, c, LAST, LAST, 0, 0, 0);
            difference(x, c, 0, 1, 0, 0, 1);
            difference(x, c, LAST - 1, LAST, 0, 0, 1);
        }
        difference(x, 7, 2192, 2192, 0, 0, 0);
        difference(x, 7, 2192, 2193, 0, 0, 1);
        x.alike();
    }

    private static void countedUpToTheEnd() {
        Due.sentence(9, "(Counted up one by one from 0: up to the last ahead of the first that comes behind b, or is OUTSIDE.)");
        Twins x = town();
        int[][] all = {{4106, 10, 9}, {4106, 9, 9}, {4106, 9, 14}, {4232, 10, 25}, {4106, 10, 22}, {4106, 44, 5}, {4166, 12, 0}};
        for (int c = 0; c <= 6; c++) {
            difference(x, c, 0, LAST, all[c][0], all[c][1], all[c][2]);
        }
        // 11 1 4107 is no day
        difference(x, 0, LAST - 365, LAST, 1, 0, 0);
        difference(x, 0, LAST - 364, LAST, 0, 11, 30);
        difference(x, 0, LAST - 31, LAST, 0, 1, 0);
        difference(x, 0, LAST - 30, LAST, 0, 0, 30);
        // behind the last ROW there is no YEAR, no MONTH
        difference(x, 7, 2000, 2142, 1, 0, 2);
        difference(x, 7, 2000, 2143, 1, 1, 0);
        difference(x, 7, 2000, LAST, 1, 1, LAST - 2143);
        difference(x, 7, 2130, LAST, 1, 0, LAST - 2143);
        difference(x, 7, 2143, LAST, 0, 0, LAST - 2143);
        x.alike();
    }

    private static void differenceRefuses() {
        Due.sentence(9, "BAD: calendar, what, b is less than a;", "OUTSIDE: a, b;", "NONE: a has no date.");
        Twins x = town();
        for (int c : NO_CALENDARS) {
            x.refused(BAD, "difference", c, 5, 6, 0).refused(BAD, "difference", c, -1, LAST + 1, 0);
        }
        for (int what : new int[] {-1, 3, MAX, MIN}) {
            x.refused(BAD, "difference", 0, 5, 6, what).refused(BAD, "difference", 7, -1, LAST + 1, what);
        }
        for (int c = 0; c <= 7; c++) {
            x.refused(BAD, "difference", c, 6, 5, 0).refused(BAD, "difference", c, 0, -1, 0);
            x.refused(BAD, "difference", c, LAST + 1, LAST, 0).refused(BAD, "difference", c, LAST + 2, LAST + 1, 0);
            x.refused(BAD, "difference", c, MAX, MIN, 0).refused(BAD, "difference", c, -1, MIN, 2);
            x.refused(OUTSIDE, "difference", c, -1, -1, 0).refused(OUTSIDE, "difference", c, -1, 0, 0);
            x.refused(OUTSIDE, "difference", c, LAST + 1, LAST + 1, 0).refused(OUTSIDE, "difference", c, 2000, LAST + 1, 1);
            x.refused(OUTSIDE, "difference", c, MIN, MAX, 2).refused(OUTSIDE, "difference", c, MIN, MIN, 2);
            x.refused(OUTSIDE, "difference", c, 5, MAX, 2).refused(OUTSIDE, "difference", c, MIN, 5, 2);
        }
        for (int what = 0; what <= 2; what++) {
            x.refused(NONE, "difference", 7, 1999, 2000, what).refused(NONE, "difference", 7, 2193, 2193, what);
            x.refused(NONE, "difference", 7, 0, LAST, what).refused(NONE, "difference", 7, LAST, LAST, what);
        }
        x.due(0, "difference", 7, 2000, 2000, 0).due(1, "difference", 7, 2192, 2193, 2);
        x.alike();
        new Twins().refused(NONE, "difference", 7, 0, 0, 0).refused(NONE, "difference", 7, LAST, LAST, 2).alike();
    }

    private static void birthdayRefuses() {
        Due.sentence(10, "BAD: calendar; NONE: no such YEAR; OUTSIDE: n;");
        Twins x = town();
        for (int c : new int[] {-1, 7, 8, MAX, MIN}) {
            x.refused(BAD, "birthday", c, 2000, 2000).refused(BAD, "birthday", c, -1, 5001);
        }
        for (int c = 0; c <= 6; c++) {
            for (int year : new int[] {-1, 5001, MAX, MIN}) {
                x.refused(NONE, "birthday", c, 2000, year).refused(NONE, "birthday", c, -1, year);
            }
            for (int n : NO_DAYS) {
                x.refused(OUTSIDE, "birthday", c, n, 0).refused(OUTSIDE, "birthday", c, n, 2000);
                x.refused(OUTSIDE, "birthday", c, n, 5000);
            }
            x.due(0, "birthday", c, 0, 0).due(LAST, "birthday", c, LAST, 4107);
        }
        x.alike();
    }

    private static void birthdaysAreTheFirst() {
        Due.sentence(10, "The first day of a YEAR of CALENDAR 0 that is an anniversary of day n by a CALENDAR (0 .. 6): n with some number"
            + " of YEARS (below 0, too) added to it.");
        Twins x = new Twins();
        int leapDay = Dates.dayOf(2000, 2, 29);
        x.due(leapDay, "birthday", 0, leapDay, 2000).due(Dates.dayOf(2001, 2, 28), "birthday", 0, leapDay, 2001);
        x.due(Dates.dayOf(1999, 2, 28), "birthday", 0, leapDay, 1999).due(Dates.dayOf(1996, 2, 29), "birthday", 0, leapDay, 1996);
        x.due(Dates.dayOf(2000, 2, 28), "birthday", 0, Dates.dayOf(2001, 2, 28), 2000);
        // two of them fall into 2002 and 2021: 731158 and 731513, 738100 and 738460
        x.due(731158, "birthday", 3, 100, 2002).due(731158, "birthday", 3, 731513, 2002);
        x.due(738100, "birthday", 6, 100, 2021).due(738100, "birthday", 6, 738460, 2021);
        x.due(738100, "birthday", 6, LAST - 1499900, 2021);
        // 29 13 of a LONG YEAR by 29 12 of others
        x.due(1446, "birthday", 4, 1092, 4).due(709, "birthday", 4, 1092, 2);
        x.alike();
    }

    private static void birthdaysWithinTheRange() {
        Due.sentence(10, "NONE: there is none in it (within the range).");
        Twins x = new Twins();
        // 1 3 and 29 2 of YEAR 0; 10 1 and 11 1 of YEAR 4107
        x.due(0, "birthday", 0, Dates.dayOf(2000, 3, 1), 0).refused(NONE, "birthday", 0, Dates.dayOf(2000, 2, 29), 0);
        x.due(LAST, "birthday", 0, Dates.dayOf(2000, 1, 10), 4107).refused(NONE, "birthday", 0, Dates.dayOf(2000, 1, 11), 4107);
        int[] lastInZero = {NONE, 284, 284, NONE, NONE, NONE, 240};
        for (int c = 0; c <= 6; c++) {
            x.due(0, "birthday", c, 0, 0).due(lastInZero[c], "birthday", c, LAST, 0);
            x.due(LAST, "birthday", c, LAST, 4107).refused(NONE, "birthday", c, 0, 4107);
            x.refused(NONE, "birthday", c, LAST, 4108).refused(NONE, "birthday", c, LAST, 5000);
            x.refused(NONE, "birthday", c, 0, 4108).refused(NONE, "birthday", c, 0, 5000);
        }
        x.due(1499685, "birthday", 0, 0, 4106).due(1499760, "birthday", 6, 0, 4106);
        x.alike();
    }

    private static void birthdaysThatAreNone() {
        Due.sentence(10, "NONE: there is none in it");
        Twins x = new Twins();
        for (int year : new int[] {1995, 2003, 2006, 2014}) {
            x.refused(NONE, "birthday", 4, 300, year);
        }
        for (int year : new int[] {1995, 2001, 2006, 2012}) {
            x.refused(NONE, "birthday", 5, 300, year);
        }
        x.alike();
    }
}
