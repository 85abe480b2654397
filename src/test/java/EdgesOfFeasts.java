/** The edges of promises 15 to 19: FEASTS, their days, and how they are moved. */
final class EdgesOfFeasts {
    private static final int LAST = 1500000;
    private static final int MAX = Integer.MAX_VALUE, MIN = Integer.MIN_VALUE;
    private static final int BAD = AlmanacHouse.BAD, NONE = AlmanacHouse.NONE;
    private static final int OUTSIDE = AlmanacHouse.OUTSIDE, FULL = AlmanacHouse.FULL;
    private static final int FIXED = 0, WEEKDAY = 1, MOVABLE = 2, BEHIND = 3;
    private static final int[] NO_YEARS = {-1, 5001, MAX, MIN};

    private EdgesOfFeasts() { }

    static void run() {
        rulesAndRanks();
        fixedArguments();
        weekdayArguments();
        movableArguments();
        behindArguments();
        mostFeasts();
        feastDayRefuses();
        yearsWithout();
        fixedDays();
        fixedDaysOfOtherCalendars();
        fixedDaysAtTheEnds();
        weekdays();
        weekdaysAtTheEnds();
        daysOfMovables();
        daysBehind();
        daysBehindNone();
        daysInAnotherYear();
        rankZeroStays();
        greatestRankFirst();
        firstFreeDayBehind();
        movedBeyondTheRange();
        movedRefuses();
        howManyDaysMoved();
        movableRefuses();
        movableExtremes();
        oldMovableExtremes();
        feastOnRefuses();
        feastsOfADay();
        feastsOfTheDaysYear();
    }

    private static void rulesAndRanks() {
        Due.sentence(15, "BAD: rule not 0 .. 3, rank;", "FEASTS 0 .. 59, as they come, each with a RULE and a RANK 0 .. 9.");
        Twins x = new Twins();
        for (int rule : new int[] {-1, 4, MAX, MIN}) {
            x.refused(BAD, "feast", rule, 1, 1, 1, 1).refused(BAD, "feast", rule, 0, 0, 0, 0);
        }
        x.due(0, "feast", FIXED, 1, 1, 1, 0).due(1, "feast", WEEKDAY, 1, 1, 1, 9).due(2, "feast", MOVABLE, 1, 1, 1, 0);
        x.due(3, "feast", BEHIND, 1, 1, 1, 9);
        for (int rank : new int[] {-1, 10, MAX, MIN}) {
            for (int rule = 0; rule <= 3; rule++) {
                x.refused(BAD, "feast", rule, 1, 1, 1, rank);
            }
        }
        x.due(4, "feast", FIXED, 1, 1, 1, 9).due(5, "feast", BEHIND, 1, 1, 1, 0).alike();
    }

    private static void fixedArguments() {
        Due.sentence(15, "of FIXED: a not 1 .. 53, b not 1 .. 200, c;");
        Twins x = new Twins();
        for (int a : new int[] {0, 54, -1, MAX, MIN}) {
            x.refused(BAD, "feast", FIXED, a, 1, 0, 1);
        }
        for (int b : new int[] {0, 201, -1, MAX, MIN}) {
            x.refused(BAD, "feast", FIXED, 1, b, 0, 1);
        }
        for (int c : new int[] {-1, 7, 8, MAX, MIN}) {
            x.refused(BAD, "feast", FIXED, 1, 1, c, 1);
        }
        x.due(0, "feast", FIXED, 1, 1, 0, 1).due(1, "feast", FIXED, 53, 200, 6, 1).due(2, "feast", FIXED, 53, 1, 0, 1);
        x.due(3, "feast", FIXED, 1, 200, 6, 1).alike();
    }

    private static void weekdayArguments() {
        Due.sentence(15, "of WEEKDAY: a not 1 .. 12, b, c;");
        Twins x = new Twins();
        for (int a : new int[] {0, 13, -1, MAX, MIN}) {
            x.refused(BAD, "feast", WEEKDAY, a, 1, 1, 1);
        }
        for (int b : new int[] {-1, 7, MAX, MIN}) {
            x.refused(BAD, "feast", WEEKDAY, 1, b, 1, 1);
        }
        for (int c : new int[] {-2, 0, 6, MAX, MIN}) {
            x.refused(BAD, "feast", WEEKDAY, 1, 1, c, 1);
        }
        x.due(0, "feast", WEEKDAY, 1, 0, 1, 1).due(1, "feast", WEEKDAY, 12, 6, 5, 1).due(2, "feast", WEEKDAY, 1, 6, -1, 1);
        x.alike();
    }

    private static void movableArguments() {
        Due.sentence(15, "of MOVABLE: a not -60 .. 100, b not 0, 1;");
        Twins x = new Twins();
        for (int a : new int[] {-61, 101, MAX, MIN}) {
            x.refused(BAD, "feast", MOVABLE, a, 0, 1, 1).refused(BAD, "feast", MOVABLE, a, 1, 1, 1);
        }
        for (int b : new int[] {-1, 2, MAX, MIN}) {
            x.refused(BAD, "feast", MOVABLE, 0, b, 1, 1);
        }
        x.due(0, "feast", MOVABLE, -60, 0, 0, 1).due(1, "feast", MOVABLE, 100, 1, 0, 1);
        // c is not looked at
        x.due(2, "feast", MOVABLE, 0, 0, MAX, 1).due(3, "feast", MOVABLE, 0, 1, MIN, 1).due(4, "feast", MOVABLE, 0, 1, -1, 1);
        int easter = Dates.dayOf(2024, 3, 31);
        x.due(easter, "feastDay", 2, 2024).due(easter - 60, "feastDay", 0, 2024).alike();
    }

    private static void behindArguments() {
        Due.sentence(15, "of BEHIND: no FEAST a, b not -40 .. 40 (c of these two is not looked at).", "A FEAST: its number.");
        Twins x = new Twins();
        for (int a : new int[] {0, 1, -1, 59, 60, MAX, MIN}) {
            x.refused(BAD, "feast", BEHIND, a, 0, 0, 1);
        }
        x.tell("feast", FIXED, 6, 1, 0, 1);
        for (int b : new int[] {-41, 41, MAX, MIN}) {
            x.refused(BAD, "feast", BEHIND, 0, b, 0, 1);
        }
        // the one that would come is no FEAST yet
        x.refused(BAD, "feast", BEHIND, 1, 0, 0, 1).refused(BAD, "feast", BEHIND, -1, 0, 0, 1);
        x.due(1, "feast", BEHIND, 0, -40, MIN, 1).due(2, "feast", BEHIND, 1, 40, MAX, 1).refused(BAD, "feast", BEHIND, 3, 0, 0, 1);
        x.due(Dates.dayOf(2000, 4, 22), "feastDay", 1, 2000).due(Dates.dayOf(2000, 6, 2), "feastDay", 2, 2000);
        x.due(2, "undo").refused(BAD, "feast", BEHIND, 2, 0, 0, 1).due(2, "feast", BEHIND, 1, 0, -1, 1).alike();
    }

    private static void mostFeasts() {
        Due.sentence(15, "FULL.", "FULL -4.");
        Twins x = new Twins();
        for (int i = 0; i < 60; i++) {
            x.due(i, "feast", FIXED, 5, 1, 0, i % 10);
        }
        x.refused(FULL, "feast", FIXED, 5, 1, 0, 1).refused(FULL, "feast", WEEKDAY, 1, 1, 1, 1);
        x.refused(FULL, "feast", MOVABLE, 0, 0, 0, 1).refused(FULL, "feast", BEHIND, 59, 0, 0, 1);
        x.refused(BAD, "feast", BEHIND, 60, 0, 0, 1).refused(BAD, "feast", 4, 1, 1, 1, 1).refused(BAD, "feast", FIXED, 5, 1, 0, 10);
        x.refused(BAD, "feastDay", 60, 2000).due(59, "undo").due(59, "feast", MOVABLE, 0, 0, 0, 1).alike();
    }

    private static void feastDayRefuses() {
        Due.sentence(16, "BAD;", "The day at which a FEAST is PLACED.");
        Twins x = new Twins();
        x.refused(BAD, "feastDay", 0, 2000).refused(BAD, "feastDay", 0, 5001);
        x.tell("feast", FIXED, 5, 5, 0, 1).tell("feast", FIXED, 5, 6, 0, 1);
        for (int feast : new int[] {-1, 2, 59, 60, MAX, MIN}) {
            x.refused(BAD, "feastDay", feast, 2000).refused(BAD, "feastDay", feast, -1).refused(BAD, "feastDay", feast, 5001);
        }
        x.due(Dates.dayOf(2000, 5, 5), "feastDay", 0, 2000).due(Dates.dayOf(2000, 5, 6), "feastDay", 1, 2000);
        x.due(1, "undo").refused(BAD, "feastDay", 1, 2000).alike();
    }

    private static void yearsWithout() {
        Due.sentence(16, "NONE: no such YEAR, or it has none.", "(of CALENDAR 0, as ever here)");
        Twins x = new Twins().tell("feast", FIXED, 3, 1, 0, 1).tell("feast", FIXED, 2, 30, 0, 1);
        for (int year : NO_YEARS) {
            x.refused(NONE, "feastDay", 0, year);
        }
        x.due(0, "feastDay", 0, 0).due(Dates.dayOf(4106, 3, 1), "feastDay", 0, 4106);
        x.refused(NONE, "feastDay", 0, 4107).refused(NONE, "feastDay", 0, 5000);
        for (int year : new int[] {0, 1, 4, 2000, 4106, 4107, 5000}) {
            x.refused(NONE, "feastDay", 1, year);
        }
        x.alike();
    }

    private static void fixedDays() {
        Due.sentence(16, "The day of one in a YEAR", "by its RULE: 0 FIXED: the first day (a number 0 .. 1500000, as ever) of the YEAR whose"
            + " date in CALENDAR c (0 .. 6) is day b of MONTH a.");
        Twins x = new Twins().tell("feast", FIXED, 2, 29, 0, 0).tell("feast", FIXED, 12, 31, 0, 0).tell("feast", FIXED, 1, 1, 0, 0);
        x.tell("feast", FIXED, 4, 31, 0, 0).tell("feast", FIXED, 13, 1, 0, 0).tell("feast", FIXED, 1, 32, 0, 0);
        x.due(Dates.dayOf(2000, 2, 29), "feastDay", 0, 2000).refused(NONE, "feastDay", 0, 1900).refused(NONE, "feastDay", 0, 2001);
        for (int year : new int[] {1, 2000, 2001, 4106}) {
            x.due(Dates.dayOf(year, 12, 31), "feastDay", 1, year).due(Dates.dayOf(year, 1, 1), "feastDay", 2, year);
            x.refused(NONE, "feastDay", 3, year).refused(NONE, "feastDay", 4, year).refused(NONE, "feastDay", 5, year);
        }
        x.alike();
    }

    private static void fixedDaysOfOtherCalendars() {
        Due.sentence(16, "0 FIXED: the first day");
        Twins x = new Twins();
        // 12 4 of 3 twice in 2002, 1 6 of 6 twice in 2021: the first one counts
        x.tell("feast", FIXED, 4, 12, 3, 0).due(731158, "feastDay", 0, 2002);
        x.tell("feast", FIXED, 6, 1, 6, 0).due(738100, "feastDay", 1, 2021).due(737740, "feastDay", 1, 2020);
        x.due(738820, "feastDay", 1, 2022);
        // MONTH 13 of LONG YEARS alone: 29 13 3 is day 1092, 26 2 3, and 29 13 6 is day 2186, 24 2 6
        x.tell("feast", FIXED, 13, 29, 4, 0).due(1092, "feastDay", 2, 3).due(2186, "feastDay", 2, 6);
        x.refused(NONE, "feastDay", 2, 2).refused(NONE, "feastDay", 2, 4).refused(NONE, "feastDay", 2, 5);
        // week 53 of YEAR 5 alone among its neighbours; it begins on day 2128, in YEAR 5, and ends in YEAR 6
        x.tell("feast", FIXED, 53, 1, 5, 0).tell("feast", FIXED, 53, 7, 5, 0);
        x.due(2128, "feastDay", 3, 5).refused(NONE, "feastDay", 3, 6).due(2134, "feastDay", 4, 6).refused(NONE, "feastDay", 4, 5);
        // the Monday of week 1 of YEAR 5 lies in YEAR 4
        x.tell("feast", FIXED, 1, 1, 5, 0).due(1764, "feastDay", 5, 4).refused(NONE, "feastDay", 5, 5);
        x.tell("feast", FIXED, 13, 6, 2, 0).due(1095, "feastDay", 6, 3).refused(NONE, "feastDay", 6, 4);
        // 25 12 of 1 lies in the next YEAR from the hundreds on
        x.tell("feast", FIXED, 12, 25, 1, 0).due(Dates.dayOf(2023, 1, 7), "feastDay", 7, 2023);
        x.alike();
    }

    private static void fixedDaysAtTheEnds() {
        Due.sentence(16, "(a number 0 .. 1500000, as ever)", "one that would be beyond the range is none.");
        Twins x = new Twins();
        int[][] first = {{3, 1}, {3, 3}, {1, 1}, {1, 1}, {1, 1}, {10, 1}, {1, 1}};
        int[][] last = {{1, 10}, {12, 12}, {10, 15}, {11, 26}, {11, 23}, {2, 6}, {13, 1}};
        for (int c = 0; c <= 6; c++) {
            x.tell("feast", FIXED, first[c][0], first[c][1], c, 0).tell("feast", FIXED, last[c][0], last[c][1], c, 0);
            x.due(0, "feastDay", 2 * c, 0).due(LAST, "feastDay", 2 * c + 1, 4107);
            x.refused(NONE, "feastDay", 2 * c, 5000).refused(NONE, "feastDay", 2 * c + 1, 4108);
        }
        x.tell("feast", FIXED, 2, 29, 0, 0).tell("feast", FIXED, 1, 11, 0, 0);
        x.refused(NONE, "feastDay", 14, 0).refused(NONE, "feastDay", 15, 4107).due(LAST - 364, "feastDay", 15, 4106);
        x.tell("feast", FIXED, 3, 2, 1, 0).tell("feast", FIXED, 12, 13, 1, 0).tell("feast", FIXED, 13, 2, 6, 0);
        x.refused(NONE, "feastDay", 16, 0).refused(NONE, "feastDay", 17, 4107).refused(NONE, "feastDay", 18, 4107);
        x.alike();
    }

    private static void weekdays() {
        Due.sentence(16, "1 WEEKDAY: the c-th (1 .. 5; -1: the last) WEEKDAY b of MONTH a.");
        Twins x = new Twins();
        for (int c : new int[] {1, 2, 3, 4, 5, -1}) {
            x.tell("feast", WEEKDAY, 3, 0, c, 0).tell("feast", WEEKDAY, 3, 2, c, 0).tell("feast", WEEKDAY, 3, 3, c, 0);
        }
        // MONTH 3 of YEAR 0 begins with Monday, day 0, and ends with Wednesday, day 30
        int[] mondays = {0, 7, 14, 21, 28, 28};
        int[] wednesdays = {2, 9, 16, 23, 30, 30};
        int[] thursdays = {3, 10, 17, 24, NONE, 24};
        for (int i = 0; i < 6; i++) {
            x.due(mondays[i], "feastDay", 3 * i, 0).due(wednesdays[i], "feastDay", 3 * i + 1, 0);
            x.due(thursdays[i], "feastDay", 3 * i + 2, 0);
        }
        // MONTH 2 of YEAR 1 has each WEEKDAY four times, that of YEAR 4 its first one five times
        int first = Dates.dayOf(1, 2, 1);
        int leap = Dates.dayOf(4, 2, 1);
        for (int w = 0; w < 7; w++) {
            x.tell("feast", WEEKDAY, 2, w, 5, 0).tell("feast", WEEKDAY, 2, w, -1, 0);
            x.refused(NONE, "feastDay", 18 + 2 * w, 1).due(first + 21 + (w - first % 7 + 7) % 7, "feastDay", 19 + 2 * w, 1);
            x.due(w == leap % 7 ? leap + 28 : NONE, "feastDay", 18 + 2 * w, 4);
            x.due(w == leap % 7 ? leap + 28 : leap + 21 + (w - leap % 7 + 7) % 7, "feastDay", 19 + 2 * w, 4);
        }
        x.alike();
    }

    private static void weekdaysAtTheEnds() {
        Due.sentence(16, "one that would be beyond the range is none.");
        Twins x = new Twins();
        // 10 1 4107 is the second Saturday, 11 1 the second Sunday
        x.tell("feast", WEEKDAY, 1, 5, 2, 0).tell("feast", WEEKDAY, 1, 6, 2, 0).tell("feast", WEEKDAY, 1, 6, 1, 0);
        x.tell("feast", WEEKDAY, 1, 5, -1, 0).tell("feast", WEEKDAY, 1, 5, 3, 0).tell("feast", WEEKDAY, 2, 5, 1, 0);
        x.due(LAST, "feastDay", 0, 4107).refused(NONE, "feastDay", 1, 4107).due(LAST - 6, "feastDay", 2, 4107);
        x.refused(NONE, "feastDay", 3, 4107).refused(NONE, "feastDay", 4, 4107).refused(NONE, "feastDay", 5, 4107);
        for (int feast = 0; feast <= 5; feast++) {
            x.refused(NONE, "feastDay", feast, 0).refused(NONE, "feastDay", feast, 5000);
        }
        x.alike();
    }

    private static void daysOfMovables() {
        Due.sentence(16, "2 MOVABLE: a days behind (below 0: ahead of) the MOVABLE day of style b.");
        Twins x = new Twins();
        // of YEAR 0 both styles are day 39
        for (int style = 0; style <= 1; style++) {
            x.tell("feast", MOVABLE, -39, style, 0, 0).tell("feast", MOVABLE, -40, style, 0, 0);
            x.tell("feast", MOVABLE, 0, style, 0, 0).tell("feast", MOVABLE, 100, style, 0, 0).tell("feast", MOVABLE, -60, style, 0, 0);
            int at = 5 * style;
            x.due(0, "feastDay", at, 0).refused(NONE, "feastDay", at + 1, 0).due(39, "feastDay", at + 2, 0);
            x.due(139, "feastDay", at + 3, 0).refused(NONE, "feastDay", at + 4, 0);
            int day = style == 0 ? Dates.dayOf(2024, 3, 31) : Dates.dayOf(2024, 5, 5);
            x.due(day, "feastDay", at + 2, 2024).due(day + 100, "feastDay", at + 3, 2024).due(day - 60, "feastDay", at + 4, 2024);
            for (int feast = at; feast < at + 5; feast++) {
                x.refused(NONE, "feastDay", feast, 4107).refused(NONE, "feastDay", feast, 5000);
            }
        }
        x.alike();
    }

    private static void daysBehind() {
        Due.sentence(16, "3 BEHIND: b days behind the day (as it is ahead of all moving) of FEAST a.");
        Twins x = new Twins().tell("feast", FIXED, 12, 25, 0, 5).tell("feast", FIXED, 12, 25, 0, 9);
        x.tell("feast", BEHIND, 0, 40, 0, 0).tell("feast", BEHIND, 0, -40, 0, 0).tell("feast", BEHIND, 0, 0, 0, 0);
        int day = Dates.dayOf(2000, 12, 25);
        // FEAST 0 is moved by a day, what is behind it is not
        x.due(day + 1, "feastDay", 0, 2000).due(day + 40, "feastDay", 2, 2000).due(day - 40, "feastDay", 3, 2000);
        x.due(day, "feastDay", 4, 2000);
        // nor by its own moving: FEAST 5 is moved behind FEAST 6
        x.tell("feast", BEHIND, 4, 1, 0, 3).tell("feast", BEHIND, 5, 0, 0, 4).tell("feast", BEHIND, 5, 1, 0, 0);
        x.due(day + 3, "feastDay", 5, 2000).due(day + 2, "feastDay", 6, 2000).due(day + 2, "feastDay", 7, 2000);
        x.alike();
    }

    private static void daysBehindNone() {
        Due.sentence(16, "It may have none, or lie in another YEAR; one that would be beyond the range is none.");
        Twins x = new Twins();
        x.tell("feast", FIXED, 3, 1, 0, 0).tell("feast", BEHIND, 0, -1, 0, 0).tell("feast", BEHIND, 1, 1, 0, 0);
        x.due(0, "feastDay", 0, 0).refused(NONE, "feastDay", 1, 0).refused(NONE, "feastDay", 2, 0);
        x.due(Dates.dayOf(1, 2, 28), "feastDay", 1, 1).due(Dates.dayOf(1, 3, 1), "feastDay", 2, 1);
        x.tell("feast", FIXED, 1, 10, 0, 0).tell("feast", BEHIND, 3, 1, 0, 0).tell("feast", BEHIND, 4, -1, 0, 0);
        x.due(LAST, "feastDay", 3, 4107).refused(NONE, "feastDay", 4, 4107).refused(NONE, "feastDay", 5, 4107);
        x.due(LAST - 364, "feastDay", 4, 4106).due(LAST - 365, "feastDay", 5, 4106);
        x.tell("feast", FIXED, 2, 29, 0, 0).tell("feast", BEHIND, 6, 1, 0, 0);
        x.due(Dates.dayOf(2000, 3, 1), "feastDay", 7, 2000).refused(NONE, "feastDay", 7, 2001).refused(NONE, "feastDay", 7, 0);
        // nor has one that is far behind none a day
        x.tell("feast", BEHIND, 6, 40, 0, 0).tell("feast", BEHIND, 6, 2, 0, 0).tell("feast", BEHIND, 6, 3, 0, 0);
        for (int year : new int[] {0, 1, 2001, 4106, 4107, 5000}) {
            x.refused(NONE, "feastDay", 8, year).refused(NONE, "feastDay", 9, year).refused(NONE, "feastDay", 10, year);
        }
        // 1 1 4107 and 9 days is the last day
        x.tell("feast", FIXED, 1, 1, 0, 0).tell("feast", BEHIND, 11, 9, 0, 0).tell("feast", BEHIND, 11, 10, 0, 0);
        x.due(LAST, "feastDay", 12, 4107).refused(NONE, "feastDay", 13, 4107).alike();
    }

    private static void daysInAnotherYear() {
        Due.sentence(16, "or lie in another YEAR;");
        Twins x = new Twins().tell("feast", FIXED, 12, 31, 0, 1).tell("feast", BEHIND, 0, 1, 0, 1).tell("feast", FIXED, 1, 1, 0, 1);
        x.tell("feast", BEHIND, 2, -1, 0, 1);
        x.due(Dates.dayOf(2001, 1, 1), "feastDay", 1, 2000).due(Dates.dayOf(2000, 1, 1), "feastDay", 2, 2000);
        x.due(Dates.dayOf(1999, 12, 31), "feastDay", 3, 2000);
        // of YEAR 4106 into 4107, and of YEAR 1 into 0
        x.due(LAST - 9, "feastDay", 1, 4106).due(305, "feastDay", 3, 1);
        // it takes no day from the FEASTS of the YEAR in which it lies
        x.due(0, "moved", 2, 2001).due(0, "moved", 1, 2000).due(0, "moved", 0, 1999).alike();
    }

    private static void rankZeroStays() {
        Due.sentence(16, "PLACED are the FEASTS of a YEAR so: those of RANK 0 at their days.");
        Twins x = new Twins();
        for (int rank : new int[] {0, 0, 9, 1, 0}) {
            x.tell("feast", FIXED, 7, 10, 0, rank);
        }
        int day = Dates.dayOf(1999, 7, 10);
        int[] due = {day, day, day, day + 1, day};
        for (int i = 0; i < due.length; i++) {
            x.due(due[i], "feastDay", i, 1999);
        }
        // one of RANK 0 takes no day from others
        x.tell("feast", FIXED, 7, 12, 0, 0).tell("feast", FIXED, 7, 10, 0, 1).due(day + 2, "feastDay", 6, 1999).alike();
    }

    private static void greatestRankFirst() {
        Due.sentence(16, "Of the others the greatest RANK first, of the same the lesser number:");
        Twins x = new Twins();
        for (int rank : new int[] {1, 9, 8, 9, 1, 2}) {
            x.tell("feast", FIXED, 7, 10, 0, rank);
        }
        int day = Dates.dayOf(1999, 7, 10);
        int[] due = {4, 0, 2, 1, 5, 3};
        for (int i = 0; i < due.length; i++) {
            x.due(day + due[i], "feastDay", i, 1999).due(due[i], "moved", i, 1999);
        }
        x.alike();
    }

    private static void firstFreeDayBehind() {
        Due.sentence(16, "at its day, or else the first day behind it on which no FEAST of a RANK above 0 was PLACED yet.");
        Twins x = new Twins();
        // 10, 11 and 13 are taken by greater ones: of two more on 10 one comes to 12, the other one to 14
        x.tell("feast", FIXED, 7, 10, 0, 9).tell("feast", FIXED, 7, 11, 0, 9).tell("feast", FIXED, 7, 13, 0, 9);
        x.tell("feast", FIXED, 7, 10, 0, 1).tell("feast", FIXED, 7, 10, 0, 1).tell("feast", FIXED, 7, 9, 0, 1);
        int day = Dates.dayOf(1999, 7, 10);
        int[] due = {0, 1, 3, 2, 4, -1};
        for (int i = 0; i < due.length; i++) {
            x.due(day + due[i], "feastDay", i, 1999);
        }
        // the one on 9 was at its day, though it came last
        x.tell("feast", FIXED, 7, 9, 0, 1).due(day + 5, "feastDay", 6, 1999).alike();
        // sixty of them, each a day further
        x = new Twins();
        for (int i = 0; i < 60; i++) {
            x.tell("feast", FIXED, 12, 25, 0, 1);
        }
        x.due(Dates.dayOf(2000, 12, 25) + 59, "feastDay", 59, 2000).due(59, "moved", 59, 2000).due(0, "moved", 0, 2000).alike();
    }

    private static void movedBeyondTheRange() {
        Due.sentence(16, "(A day beyond the range: it has none.)");
        Twins x = new Twins().tell("feast", FIXED, 1, 9, 0, 1).tell("feast", FIXED, 1, 9, 0, 1).tell("feast", FIXED, 1, 9, 0, 1);
        x.tell("feast", FIXED, 1, 10, 0, 0).tell("feast", BEHIND, 2, 1, 0, 0);
        x.due(LAST - 1, "feastDay", 0, 4107).due(LAST, "feastDay", 1, 4107).refused(NONE, "feastDay", 2, 4107);
        x.refused(NONE, "moved", 2, 4107).due(1, "moved", 1, 4107).due(LAST, "feastDay", 3, 4107).due(LAST, "feastDay", 4, 4107);
        x.due(LAST - 364, "feastDay", 2, 4106).due(2, "moved", 2, 4106).alike();
    }

    private static void movedRefuses() {
        Due.sentence(17, "As feastDay().");
        Twins x = new Twins();
        x.refused(BAD, "moved", 0, 2000).refused(BAD, "moved", 0, 5001);
        x.tell("feast", FIXED, 2, 29, 0, 1).tell("feast", FIXED, 2, 28, 0, 1);
        for (int feast : new int[] {-1, 2, 59, 60, MAX, MIN}) {
            x.refused(BAD, "moved", feast, 2000).refused(BAD, "moved", feast, -1);
        }
        for (int year : NO_YEARS) {
            x.refused(NONE, "moved", 0, year);
        }
        x.refused(NONE, "moved", 0, 0).refused(NONE, "moved", 0, 2001).refused(NONE, "moved", 1, 4107);
        x.refused(NONE, "moved", 1, 5000).due(0, "moved", 0, 2000).due(0, "moved", 1, 4106).alike();
    }

    private static void howManyDaysMoved() {
        Due.sentence(17, "How many days it was moved.");
        Twins x = new Twins().tell("feast", FIXED, 12, 31, 0, 1).tell("feast", FIXED, 12, 31, 0, 2).tell("feast", BEHIND, 0, 1, 0, 1);
        // 31 12 and 1 1 are taken ahead of FEAST 2
        x.due(1, "moved", 0, 2000).due(0, "moved", 1, 2000).due(1, "moved", 2, 2000);
        x.due(2, "undo").due(1, "undo").due(0, "moved", 0, 2000).alike();
    }

    private static void movableRefuses() {
        Due.sentence(18, "THE MOVABLE day of a style (0, 1).", "BAD: style; NONE: no such YEAR; OUTSIDE.");
        Twins x = new Twins();
        for (int style : new int[] {-1, 2, MAX, MIN}) {
            x.refused(BAD, "movable", style, 2000).refused(BAD, "movable", style, -1).refused(BAD, "movable", style, 5000);
        }
        for (int style = 0; style <= 1; style++) {
            for (int year : NO_YEARS) {
                x.refused(NONE, "movable", style, year);
            }
            x.due(39, "movable", style, 0).refused(OUTSIDE, "movable", style, 4107).refused(OUTSIDE, "movable", style, 5000);
        }
        int day = x.ask("movable", 0, 4106);
        Due.yes("movable(0, 4106)", day >= Dates.dayOf(4106, 3, 22) && day <= Dates.dayOf(4106, 4, 25));
        Due.yes("movable(1, 4106)", x.ask("movable", 1, 4106) > day);
        x.alike();
    }

    private static void movableExtremes() {
        Due.sentence(18, "Style 0: with c = y / 100 and h = the rest of c - c / 4 - (8 c + 13) / 25 + 19 g + 15 by 30, i = h - (h / 28) (1 -"
            + " (29 / (h + 1)) ((21 - g) / 11)), j = the rest of y + y / 4 + i + 2 - c + c / 4 by 7, l = i - j: the same MONTH and day"
            + " by l, of CALENDAR 0 (rests are never below 0).");
        Twins x = new Twins();
        // the least and the greatest day, the turn of the MONTH, and h of 28 and 29
        int[][] known = {{1598, 3, 22}, {1818, 3, 22}, {2285, 3, 22}, {1943, 4, 25}, {2038, 4, 25}, {2024, 3, 31}, {2018, 4, 1},
            {1954, 4, 18}, {1981, 4, 19}, {2049, 4, 18}, {2076, 4, 19}, {2106, 4, 18}, {1609, 4, 19}, {1899, 4, 2}, {1900, 4, 15},
            {2000, 4, 23}, {2100, 3, 28}};
        for (int[] k : known) {
            x.due(Dates.dayOf(k[0], k[1], k[2]), "movable", 0, k[0]);
        }
        for (int year = 1; year <= 4106; year++) {
            x.due(easter(year), "movable", 0, year);
        }
        x.due(39, "movable", 0, 0).due(396, "movable", 0, 1).alike();
    }

    /** Another, anonymous formula for the same day. */
    private static int easter(int year) {
        int a = year % 19;
        int b = year / 100;
        int c = year % 100;
        int d = (19 * a + b - b / 4 - (b - (b + 8) / 25 + 1) / 3 + 15) % 30;
        int e = (32 + 2 * (b % 4) + 2 * (c / 4) - d - c % 4) % 7;
        int f = d + e - 7 * ((a + 11 * d + 22 * e) / 451) + 114;
        return Dates.dayOf(year, f / 31, f % 31 + 1);
    }

    /** And one for the other style: its first full moon behind 20 3, then the next Sunday. */
    private static int oldEaster(Twins x, int year) {
        int a = year % 4;
        int b = year % 7;
        int c = year % 19;
        int d = (19 * c + 15) % 30;
        int e = (2 * a + 4 * b - d + 34) % 7;
        return x.ask("toDay", 1, year, (d + e + 114) / 31, (d + e + 114) % 31 + 1);
    }

    private static void oldMovableExtremes() {
        Due.sentence(18, "THE MOVABLE day of YEAR y, style 1: with g = the rest of y by 19, e = the rest of 19 g + 15 by 30, j = the rest of"
            + " y + y / 4 + e by 7 (quotients cut), l = e - j: MONTH 3 + (l + 40) / 44, day l + 28 - 31 ((3 + (l + 40) / 44) / 4), of"
            + " CALENDAR 1.");
        Twins x = new Twins();
        // in CALENDAR 0: 4 4 2010 to 8 5 1983 in these hundreds
        int[][] known = {{2010, 4, 4}, {1983, 5, 8}, {2021, 5, 2}, {2024, 5, 5}, {2025, 4, 20}, {2023, 4, 16}, {2013, 5, 5}, {1915, 4, 4}};
        for (int[] k : known) {
            x.due(Dates.dayOf(k[0], k[1], k[2]), "movable", 1, k[0]);
        }
        // 22 3 414 and 25 4 672, as CALENDAR 1 tells them
        int least = x.ask("toDay", 1, 414, 3, 22);
        int most = x.ask("toDay", 1, 672, 4, 25);
        for (int year = 0; year <= 4106; year++) {
            x.due(oldEaster(x, year), "movable", 1, year);
        }
        x.due(39, "movable", 1, 0).due(389, "movable", 1, 1).due(most, "movable", 1, 672).due(least, "movable", 1, 414).alike();
    }

    private static void feastOnRefuses() {
        Due.sentence(19, "OUTSIDE; NONE: no such one.");
        Twins x = new Twins();
        x.refused(NONE, "feastOn", 0, 0).refused(NONE, "feastOn", LAST, 0);
        x.tell("feast", FIXED, 3, 1, 0, 1).tell("feast", FIXED, 1, 10, 0, 0).tell("feast", FIXED, 1, 10, 0, 0);
        for (int n : new int[] {-1, LAST + 1, MAX, MIN}) {
            for (int k : new int[] {0, -1, MAX, MIN}) {
                x.refused(OUTSIDE, "feastOn", n, k);
            }
        }
        x.due(0, "feastOn", 0, 0).due(1, "feastOn", LAST, 0).due(2, "feastOn", LAST, 1);
        for (int k : new int[] {-1, 2, 59, 60, MAX, MIN}) {
            x.refused(NONE, "feastOn", LAST, k).refused(NONE, "feastOn", 0, k);
        }
        x.refused(NONE, "feastOn", 0, 1).refused(NONE, "feastOn", 1, 0).refused(NONE, "feastOn", LAST - 1, 0).alike();
    }

    private static void feastsOfADay() {
        Due.sentence(19, "FEAST k (from 0 on) of those PLACED on day n", "by RANKS, the greatest first, then numbers.");
        Twins x = new Twins();
        for (int i = 0; i < 29; i++) {
            x.tell("feast", FIXED, 7, 10, 0, 0);
        }
        x.tell("feast", FIXED, 7, 10, 0, 3);
        for (int i = 0; i < 29; i++) {
            x.tell("feast", FIXED, 7, 10, 0, 0);
        }
        x.tell("feast", FIXED, 7, 9, 0, 9);
        int day = Dates.dayOf(1999, 7, 10);
        x.due(29, "feastOn", day, 0).due(0, "feastOn", day, 1).due(28, "feastOn", day, 29).due(30, "feastOn", day, 30);
        x.due(58, "feastOn", day, 58).refused(NONE, "feastOn", day, 59).due(59, "feastOn", day - 1, 0).alike();
    }

    private static void feastsOfTheDaysYear() {
        Due.sentence(19, "(of the YEAR in which n is),");
        Twins x = new Twins().tell("feast", FIXED, 12, 31, 0, 9).tell("feast", FIXED, 12, 31, 0, 8).tell("feast", FIXED, 1, 1, 0, 0);
        x.tell("feast", BEHIND, 2, -1, 0, 0);
        int day = Dates.dayOf(2001, 1, 1);
        // FEAST 1 of 2000 is moved to 1 1 2001, FEAST 3 of 2001 lies on 31 12 2000
        x.due(day, "feastDay", 1, 2000).due(day - 1, "feastDay", 3, 2001);
        x.due(2, "feastOn", day, 0).refused(NONE, "feastOn", day, 1).due(0, "feastOn", day - 1, 0).refused(NONE, "feastOn", day - 1, 1);
        x.alike();
    }
}
