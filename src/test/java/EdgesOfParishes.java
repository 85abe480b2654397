/** The edges of promises 24 to 29: PARISHES, their RULES, and days off. */
final class EdgesOfParishes {
    private static final int LAST = 1500000;
    private static final int MAX = Integer.MAX_VALUE, MIN = Integer.MIN_VALUE;
    private static final int BAD = AlmanacHouse.BAD, NONE = AlmanacHouse.NONE;
    private static final int OUTSIDE = AlmanacHouse.OUTSIDE, FULL = AlmanacHouse.FULL;
    private static final int FIXED = 0, BEHIND = 3;
    private static final int[] NO_DAYS = {-1, LAST + 1, MAX, MIN};
    /** Where a new object, or one of two PARISHES, has none. */
    private static final int[] NO_PARISHES = {-1, 2, 7, 8, MAX, MIN};

    private EdgesOfParishes() { }

    static void run() {
        weeklyBits();
        mostParishes();
        rulesOfAParish();
        ruleRefuses();
        mostRules();
        weeklyDays();
        isOffRefuses();
        daysAheadAndBehind();
        placedDaysCount();
        feastsWithoutADay();
        rulesOfOtherParishes();
        feastsOfTheYearsAround();
        feastsOfFartherYears();
        feastsAtTheEndsOfTheRange();
        bridges();
        bridgesBearNoBridge();
        bridgesOverYears();
        bridgesByFartherYears();
        bridgesAtTheEndsOfTheRange();
        workedDays();
        workedBackwards();
        mostWorkedDays();
        workedOutside();
        nextDays();
        nextOffRefuses();
        nextOfFourHundred();
        nextWithinTheRange();
        daysInARow();
        atMostFiftyOnEachSide();
        rowsAtTheEndsOfTheRange();
        inRowRefuses();
    }

    private static void weeklyBits() {
        Due.sentence(24, "A PARISH: its number.", "BAD: weekly not 0 .. 127;");
        Twins x = new Twins();
        for (int weekly : new int[] {-1, 128, 255, MAX, MIN}) {
            x.refused(BAD, "parish", weekly, true).refused(BAD, "parish", weekly, false);
        }
        x.due(0, "parish", 0, false).due(1, "parish", 127, true).due(2, "parish", 1, true).due(3, "parish", 126, false);
        x.refused(BAD, "parish", 128, true).refused(BAD, "parish", -1, false).alike();
    }

    private static void mostParishes() {
        Due.sentence(24, "FULL.", "PARISHES 0 .. 7, as they come,");
        Twins x = new Twins();
        for (int i = 0; i <= 7; i++) {
            x.due(i, "parish", 1 << i % 7, i % 2 == 0);
        }
        x.refused(FULL, "parish", 0, false).refused(FULL, "parish", 127, true);
        x.refused(BAD, "parish", 128, true).refused(BAD, "parish", -1, true);
        x.refused(BAD, "isOff", 8, 5).due(0, "isOff", 7, 5).due(1, "isOff", 7, 7);
        x.due(7, "undo").refused(BAD, "isOff", 7, 5).due(7, "parish", 32, false).due(1, "isOff", 7, 5).alike();
    }

    private static void rulesOfAParish() {
        Due.sentence(25, "A RULE: how many the PARISH has.", "a FEAST with days ahead and behind.");
        Twins x = new Twins().tell("parish", 0, false).tell("parish", 0, false).tell("feast", FIXED, 5, 5, 0, 1);
        x.due(1, "rule", 0, 0, 0, 0).due(2, "rule", 0, 0, 0, 0).due(1, "rule", 1, 0, 0, 0).due(3, "rule", 0, 0, 5, 5);
        x.due(2, "rule", 1, 0, 1, 2).due(5, "count", 4).due(7, "undo").due(2, "rule", 1, 0, 0, 0);
        // of a PARISH that was taken back and came again
        x.tell("parish", 0, false).due(1, "rule", 2, 0, 0, 0).due(9, "undo").due(8, "undo").tell("parish", 0, true);
        x.due(1, "rule", 2, 0, 0, 0).alike();
    }

    private static void ruleRefuses() {
        Due.sentence(25, "BAD: also ahead, behind not 0 .. 10;");
        Twins empty = new Twins().refused(BAD, "rule", 0, 0, 0, 0);
        empty.tell("parish", 0, false).refused(BAD, "rule", 0, 0, 0, 0).alike();
        new Twins().tell("feast", FIXED, 5, 5, 0, 1).refused(BAD, "rule", 0, 0, 0, 0).alike();
        Twins x = new Twins().tell("parish", 0, false).tell("parish", 0, false);
        x.tell("feast", FIXED, 5, 5, 0, 1).tell("feast", FIXED, 6, 5, 0, 1).tell("feast", FIXED, 7, 5, 0, 1);
        for (int parish : NO_PARISHES) {
            x.refused(BAD, "rule", parish, 0, 0, 0);
        }
        for (int feast : new int[] {-1, 3, 59, 60, MAX, MIN}) {
            x.refused(BAD, "rule", 0, feast, 0, 0);
        }
        for (int days : new int[] {-1, 11, MAX, MIN}) {
            x.refused(BAD, "rule", 0, 0, days, 0).refused(BAD, "rule", 0, 0, 0, days).refused(BAD, "rule", 1, 2, days, days);
        }
        x.due(1, "rule", 1, 2, 10, 10).due(2, "rule", 1, 2, 0, 0).due(3, "rule", 1, 0, 0, 10).due(4, "rule", 1, 0, 10, 0);
        x.alike();
    }

    private static void mostRules() {
        Due.sentence(25, "FULL.", "and RULES (48 in all):");
        Twins x = new Twins().tell("parish", 0, false).tell("parish", 0, false).tell("feast", FIXED, 5, 5, 0, 1);
        for (int i = 0; i < 47; i++) {
            x.due(i + 1, "rule", 0, 0, i % 11, 0);
        }
        x.due(1, "rule", 1, 0, 3, 3).due(48, "count", 4);
        x.refused(FULL, "rule", 0, 0, 0, 0).refused(FULL, "rule", 1, 0, 10, 10);
        x.refused(BAD, "rule", 2, 0, 0, 0).refused(BAD, "rule", 0, 1, 0, 0).refused(BAD, "rule", 0, 0, 11, 0);
        x.refused(BAD, "rule", 0, 0, 0, -1);
        x.due(50, "undo").due(48, "rule", 0, 0, 0, 1).refused(FULL, "rule", 1, 0, 0, 0).alike();
    }

    private static void weeklyDays() {
        Due.sentence(26, "Whether a day is OFF: 1, 0.", "have WEEKLY days off (bit w: WEEKDAY w), may BRIDGE,",
            "A day is FREE in a PARISH, if it is a WEEKLY one,");
        Twins x = new Twins();
        for (int w = 0; w < 7; w++) {
            x.tell("parish", 1 << w, false);
            for (int n = 0; n < 14; n++) {
                x.due(n % 7 == w ? 1 : 0, "isOff", w, n);
                x.due((LAST - n) % 7 == w ? 1 : 0, "isOff", w, LAST - n);
            }
        }
        x.alike();
        x = new Twins().tell("parish", 0, true).tell("parish", 127, false);
        for (int n : new int[] {0, 1, 6, 7, 730000, LAST - 1, LAST}) {
            x.due(0, "isOff", 0, n).due(1, "isOff", 1, n);
        }
        x.alike();
    }

    private static void isOffRefuses() {
        Due.sentence(26, "BAD; OUTSIDE.");
        Twins x = new Twins().refused(BAD, "isOff", 0, 5).refused(BAD, "isOff", 0, -1);
        x.tell("parish", 127, true).tell("parish", 0, false);
        for (int parish : NO_PARISHES) {
            x.refused(BAD, "isOff", parish, 5).refused(BAD, "isOff", parish, -1).refused(BAD, "isOff", parish, LAST + 1);
        }
        for (int n : NO_DAYS) {
            x.refused(OUTSIDE, "isOff", 0, n).refused(OUTSIDE, "isOff", 1, n);
        }
        x.due(1, "isOff", 0, 0).due(1, "isOff", 0, LAST).due(0, "isOff", 1, 0).due(0, "isOff", 1, LAST).alike();
    }

    private static void daysAheadAndBehind() {
        Due.sentence(26, "or lies within ahead and behind of the day at which a FEAST of a RULE is PLACED,");
        int day = Dates.dayOf(1999, 7, 10);
        for (int[] of : new int[][] {{0, 0}, {10, 0}, {0, 10}, {10, 10}, {1, 2}}) {
            Twins x = new Twins().tell("parish", 0, false).tell("feast", FIXED, 7, 10, 0, 1).tell("rule", 0, 0, of[0], of[1]);
            for (int n = -12; n <= 12; n++) {
                x.due(n >= -of[0] && n <= of[1] ? 1 : 0, "isOff", 0, day + n);
            }
            x.alike();
        }
        // two RULES of one FEAST: what either of them frees
        Twins x = new Twins().tell("parish", 0, false).tell("feast", FIXED, 7, 10, 0, 0);
        x.tell("rule", 0, 0, 2, 0).tell("rule", 0, 0, 0, 3);
        for (int n = -5; n <= 5; n++) {
            x.due(n >= -2 && n <= 3 ? 1 : 0, "isOff", 0, day + n);
        }
        x.alike();
    }

    private static void placedDaysCount() {
        Due.sentence(26, "the day at which a FEAST of a RULE is PLACED,");
        Twins x = new Twins().tell("parish", 0, false).tell("feast", FIXED, 7, 10, 0, 1).tell("rule", 0, 0, 0, 0);
        int day = Dates.dayOf(1999, 7, 10);
        x.due(1, "isOff", 0, day).due(0, "isOff", 0, day + 1);
        // two greater ones move it by two days, RULES or none
        x.tell("feast", FIXED, 7, 10, 0, 2).tell("feast", FIXED, 7, 11, 0, 2);
        x.due(0, "isOff", 0, day).due(0, "isOff", 0, day + 1).due(1, "isOff", 0, day + 2);
        x.due(4, "undo").due(0, "isOff", 0, day).due(1, "isOff", 0, day + 1).due(0, "isOff", 0, day + 2).alike();
    }

    private static void feastsWithoutADay() {
        Due.sentence(26, "a FEAST of a RULE is PLACED,");
        Twins x = new Twins().tell("parish", 0, true).tell("feast", FIXED, 2, 29, 0, 1).tell("rule", 0, 0, 10, 10);
        int leap = Dates.dayOf(2000, 2, 29);
        int common = Dates.dayOf(2001, 2, 28);
        x.due(1, "isOff", 0, leap - 10).due(1, "isOff", 0, leap + 10).due(0, "isOff", 0, leap + 11).due(0, "isOff", 0, leap - 11);
        for (int n = -11; n <= 11; n++) {
            x.due(0, "isOff", 0, common + n);
        }
        // one that has none is no day -2, near which days would be free
        for (int n = 0; n <= 12; n++) {
            x.due(0, "isOff", 0, n);
        }
        x.alike();
    }

    private static void rulesOfOtherParishes() {
        Due.sentence(26, "and RULES");
        Twins x = new Twins();
        for (int i = 0; i < 8; i++) {
            x.tell("parish", 0, false).tell("feast", FIXED, 7, 1 + i, 0, 0).tell("rule", i, i, 0, 0);
        }
        int day = Dates.dayOf(1999, 7, 1);
        for (int parish = 0; parish < 8; parish++) {
            for (int i = -1; i <= 8; i++) {
                x.due(i == parish ? 1 : 0, "isOff", parish, day + i);
            }
        }
        x.alike();
    }

    private static void feastsOfTheYearsAround() {
        Due.sentence(26, "of the YEAR in which it is, the one before, or the next one");
        Twins x = new Twins().tell("parish", 0, false).tell("parish", 0, false);
        x.tell("feast", FIXED, 12, 31, 0, 1).tell("feast", FIXED, 1, 1, 0, 1);
        x.tell("rule", 0, 0, 0, 10).tell("rule", 1, 1, 10, 0);
        for (int year : new int[] {1, 2000, 2001, 4106}) {
            int newYear = Dates.dayOf(year, 1, 1);
            for (int n = -12; n <= 12; n++) {
                x.due(n >= -1 && n <= 9 ? 1 : 0, "isOff", 0, newYear + n);
                x.due(n >= -10 && n <= 0 ? 1 : 0, "isOff", 1, newYear + n);
            }
        }
        x.alike();
        // FEASTS that lie in another YEAR: 10 1 of the next one, 22 12 of the one before
        x = new Twins().tell("parish", 0, false).tell("feast", FIXED, 12, 31, 0, 0).tell("feast", FIXED, 1, 1, 0, 0);
        x.tell("feast", BEHIND, 0, 10, 0, 0).tell("feast", BEHIND, 1, -10, 0, 0).tell("rule", 0, 2, 0, 0).tell("rule", 0, 3, 0, 0);
        int newYear = Dates.dayOf(2001, 1, 1);
        for (int n = -12; n <= 12; n++) {
            x.due(n == 9 || n == -10 ? 1 : 0, "isOff", 0, newYear + n);
        }
        x.alike();
    }

    /** A FEAST of 2000 in 2002, one of 2002 in 2000: 366 and 365 days off. */
    private static Twins farFeasts(int more) {
        Twins x = new Twins().tell("parish", 0, false).tell("parish", 0, false);
        x.tell("feast", FIXED, 12, 30, 0, 0).tell("feast", FIXED, 1, 2, 0, 0);
        for (int i = 0; i < 9; i++) {
            x.tell("feast", BEHIND, 2 * i, 40, 0, 0).tell("feast", BEHIND, 2 * i + 1, -40, 0, 0);
        }
        x.tell("feast", BEHIND, 18, 6 + more, 0, 0).tell("feast", BEHIND, 19, -6 - more, 0, 0);
        return x.tell("rule", 0, 20, 0, 1).tell("rule", 1, 21, 1, 0);
    }

    private static void feastsOfFartherYears() {
        Due.sentence(26, "the one before, or the next one");
        // 30 12 2000 and 366 days is 31 12 2001; the day behind it is of 2002, for which 2000 is too far
        Twins x = farFeasts(0);
        int end = Dates.dayOf(2001, 12, 31);
        int start = Dates.dayOf(2001, 1, 1);
        x.due(end, "feastDay", 20, 2000).due(start, "feastDay", 21, 2002);
        x.due(1, "isOff", 0, end).due(0, "isOff", 0, end + 1).due(1, "isOff", 1, start).due(0, "isOff", 1, start - 1);
        x.due(1, "worked", 0, end, end + 1).due(1, "worked", 1, start - 1, start).due(1, "inRow", 0, end).due(1, "inRow", 1, start);
        x.alike();
        // a day more, and it lies in the farther YEAR itself
        x = farFeasts(1);
        x.due(end + 1, "feastDay", 20, 2000).due(start - 1, "feastDay", 21, 2002);
        for (int n = -2; n <= 3; n++) {
            x.due(0, "isOff", 0, end + n).due(0, "isOff", 1, start - n);
        }
        x.alike();
    }

    private static void feastsAtTheEndsOfTheRange() {
        Due.sentence(26, "(0 at least; of YEARS that are there).");
        Twins x = new Twins().tell("parish", 0, false).tell("parish", 0, false).tell("parish", 0, false).tell("parish", 0, false);
        // 1 3 is day 0, 29 2 no day; 10 1 is the last day, 11 1 no day
        x.tell("feast", FIXED, 3, 1, 0, 0).tell("feast", FIXED, 2, 29, 0, 0).tell("feast", FIXED, 1, 10, 0, 0);
        x.tell("feast", FIXED, 1, 11, 0, 0);
        for (int i = 0; i < 4; i++) {
            x.tell("rule", i, i, 10, 10);
        }
        for (int n = 0; n <= 12; n++) {
            x.due(n <= 10 ? 1 : 0, "isOff", 0, n).due(0, "isOff", 1, n);
            x.due(n <= 10 ? 1 : 0, "isOff", 2, LAST - n).due(0, "isOff", 3, LAST - n);
        }
        // of YEAR 1 into YEAR 0, of 4106 into 4107
        x.tell("feast", FIXED, 1, 1, 0, 0).tell("feast", FIXED, 12, 31, 0, 0).tell("rule", 1, 4, 10, 0).tell("rule", 3, 5, 0, 10);
        for (int n = -12; n <= 0; n++) {
            x.due(n >= -10 ? 1 : 0, "isOff", 1, 306 + n);
        }
        // 31 12 4106 is the tenth day ahead of the last one
        for (int n = 0; n <= 12; n++) {
            x.due(n <= 10 ? 1 : 0, "isOff", 3, LAST - n);
        }
        x.alike();
    }

    private static void bridges() {
        Due.sentence(26, "It is OFF if it is FREE, or the PARISH BRIDGES and the days before it and behind it both are FREE.");
        Twins x = new Twins().tell("parish", 0b0000101, true).tell("parish", 0b0000101, false).tell("parish", 0b0001001, true);
        for (int n = 7; n < 21; n++) {
            x.due(n % 7 <= 2 ? 1 : 0, "isOff", 0, n).due(n % 7 == 0 || n % 7 == 2 ? 1 : 0, "isOff", 1, n);
            // two days between are no bridge
            x.due(n % 7 == 0 || n % 7 == 3 ? 1 : 0, "isOff", 2, n);
        }
        // between a WEEKLY day and a FEAST's day: 8 7 2000 is a Thursday, as the document counts
        int day = Dates.dayOf(2000, 7, 8);
        x.tell("parish", 0b0100000, true).tell("feast", FIXED, 7, 8, 0, 1);
        x.due(0, "isOff", 3, day + 1).tell("rule", 3, 0, 0, 0);
        x.due(3, "fromDay", 0, day, 3).due(1, "isOff", 3, day).due(1, "isOff", 3, day + 1).due(1, "isOff", 3, day + 2);
        x.due(0, "isOff", 3, day - 1).due(0, "isOff", 3, day + 3).alike();
    }

    private static void bridgesBearNoBridge() {
        Due.sentence(26, "the days before it and behind it both are FREE.");
        // Monday, Wednesday, Friday: Tuesday and Thursday are OFF by bridges, Saturday and Sunday are not
        Twins x = new Twins().tell("parish", 0b0010101, true);
        int[] off = {1, 1, 1, 1, 1, 0, 0};
        for (int n = 7; n < 21; n++) {
            x.due(off[n % 7], "isOff", 0, n);
        }
        // Monday, Wednesday, Saturday: Tuesday and Sunday are OFF, Thursday and Friday are not
        x.tell("parish", 0b0100101, true);
        int[] more = {1, 1, 1, 0, 0, 1, 1};
        for (int n = 7; n < 21; n++) {
            x.due(more[n % 7], "isOff", 1, n);
        }
        x.alike();
    }

    private static void bridgesOverYears() {
        Due.sentence(26, "the PARISH BRIDGES");
        Twins x = new Twins().tell("parish", 0, true).tell("parish", 0, true).tell("parish", 0, false);
        x.tell("feast", FIXED, 12, 30, 0, 0).tell("feast", FIXED, 1, 1, 0, 0).tell("feast", FIXED, 12, 31, 0, 0);
        x.tell("feast", FIXED, 1, 2, 0, 0);
        for (int i = 0; i < 4; i++) {
            x.tell("rule", i / 2, i, 0, 0).tell("rule", 2, i, 0, 0);
        }
        for (int year : new int[] {1, 2001, 4106, 4107}) {
            int newYear = Dates.dayOf(year, 1, 1);
            x.due(1, "isOff", 0, newYear - 1).due(0, "isOff", 0, newYear + 1).due(0, "isOff", 0, newYear - 3);
            x.due(1, "isOff", 1, newYear).due(0, "isOff", 1, newYear + 2).due(0, "isOff", 1, newYear - 2);
            x.due(4, "inRow", 2, newYear).due(3, "inRow", 0, newYear - 1).due(3, "inRow", 1, newYear);
        }
        x.alike();
    }

    private static void bridgesByFartherYears() {
        Due.sentence(26, "the days before it and behind it both are FREE.", "the one before, or the next one");
        // 1 1 2001 is FREE by a FEAST of 2002, 31 12 2001 by one of 2000: days of 2000 and 2002 lean on them
        Twins x = new Twins().tell("parish", 0, true).tell("parish", 0, true);
        x.tell("feast", FIXED, 12, 30, 0, 0).tell("feast", FIXED, 1, 2, 0, 0);
        for (int i = 0; i < 9; i++) {
            x.tell("feast", BEHIND, 2 * i, 40, 0, 0).tell("feast", BEHIND, 2 * i + 1, -40, 0, 0);
        }
        x.tell("feast", BEHIND, 18, 6, 0, 0).tell("feast", BEHIND, 19, -6, 0, 0);
        x.tell("rule", 0, 21, 0, 0).tell("rule", 0, 0, 0, 0).tell("rule", 1, 20, 0, 0).tell("rule", 1, 1, 0, 0);
        int start = Dates.dayOf(2001, 1, 1);
        int end = Dates.dayOf(2001, 12, 31);
        x.due(start, "feastDay", 21, 2002).due(end, "feastDay", 20, 2000);
        x.due(1, "isOff", 0, start - 1).due(1, "isOff", 1, end + 1).due(0, "worked", 0, start - 1, start - 1);
        x.due(0, "worked", 1, end + 1, end + 1).due(start - 1, "nextOff", 0, start - 2).due(end + 1, "nextOff", 1, end);
        x.alike();
    }

    private static void bridgesAtTheEndsOfTheRange() {
        Due.sentence(26, "DAYS have numbers 0 .. 1500000;");
        // day 0 is a Monday, the last one a Saturday: what lies beyond them is no day, and not FREE
        Twins x = new Twins().tell("parish", 0b1000010, true).tell("parish", 0b1010000, true).tell("parish", 0b1111110, true);
        x.due(0, "isOff", 0, 0).due(1, "isOff", 0, 7).due(0, "isOff", 1, LAST).due(1, "isOff", 1, LAST - 7);
        x.due(0, "isOff", 2, 0).due(1, "isOff", 2, 7);
        x.due(1, "worked", 0, 0, 0).due(1, "worked", 1, LAST, LAST).due(0, "inRow", 0, 0).due(0, "inRow", 1, LAST);
        x.refused(NONE, "nextOff", 1, LAST - 1);
        // within the range they are bridged up to its ends
        x.tell("parish", 0b0000101, true).due(1, "isOff", 3, 1).due(3, "inRow", 3, 0);
        x.tell("parish", 0b0101000, true).due(1, "isOff", 4, LAST - 1).due(3, "inRow", 4, LAST).alike();
    }

    private static void workedDays() {
        Due.sentence(27, "How many days from from to to (with it) are not OFF.");
        Twins x = new Twins().tell("parish", 0b1100000, false).tell("parish", 0, false).tell("parish", 127, false);
        x.due(1, "worked", 0, 4, 4).due(0, "worked", 0, 5, 5).due(1, "worked", 0, 4, 5).due(1, "worked", 0, 6, 7);
        x.due(0, "worked", 0, 5, 6).due(5, "worked", 0, 0, 6).due(6, "worked", 0, 0, 7).due(1, "worked", 0, 0, 0);
        x.due(0, "worked", 0, LAST, LAST).due(1, "worked", 0, LAST - 1, LAST).due(2, "worked", 1, LAST - 1, LAST);
        x.due(0, "worked", 2, 0, 799).due(800, "worked", 1, 0, 799);
        // bridges count at both ends of the stretch, though what bears them lies beyond it
        x.tell("parish", 0b0000101, true).due(0, "worked", 3, 8, 8).due(4, "worked", 3, 8, 15).due(0, "worked", 3, 7, 9);
        x.alike();
    }

    private static void workedBackwards() {
        Due.sentence(27, "BAD: also to is less than from,");
        Twins x = new Twins().refused(BAD, "worked", 0, 5, 6).tell("parish", 0, true).tell("parish", 127, false);
        for (int parish : NO_PARISHES) {
            x.refused(BAD, "worked", parish, 5, 6).refused(BAD, "worked", parish, -1, LAST + 1);
        }
        x.refused(BAD, "worked", 0, 6, 5).due(1, "worked", 0, 5, 5).refused(BAD, "worked", 0, MAX, MIN);
        x.refused(BAD, "worked", 0, 0, -1).refused(BAD, "worked", 0, LAST + 2, LAST + 1).refused(BAD, "worked", 0, -1, MIN);
        x.refused(BAD, "worked", 0, MAX, MAX - 1).refused(BAD, "worked", 1, LAST, 0).alike();
    }

    private static void mostWorkedDays() {
        Due.sentence(27, "or more than 800 days;");
        Twins x = new Twins().tell("parish", 0, true);
        x.due(800, "worked", 0, 0, 799).refused(BAD, "worked", 0, 0, 800).refused(BAD, "worked", 0, 0, 801);
        x.due(800, "worked", 0, LAST - 799, LAST).refused(BAD, "worked", 0, LAST - 800, LAST);
        x.due(800, "worked", 0, 730000, 730799).refused(BAD, "worked", 0, 730000, 730800);
        // it goes ahead of OUTSIDE, and the greatest stretches do not wrap round
        x.refused(BAD, "worked", 0, -1, 799).refused(OUTSIDE, "worked", 0, -1, 798).refused(BAD, "worked", 0, LAST - 799, LAST + 1);
        x.refused(BAD, "worked", 0, MIN, MAX).refused(BAD, "worked", 0, 0, MAX).refused(BAD, "worked", 0, MIN, 0);
        x.refused(BAD, "worked", 0, MIN, MIN + 800).refused(BAD, "worked", 0, MAX - 800, MAX).refused(BAD, "worked", 0, -1, MAX);
        // with a bridge's day at either end, borne by a day beyond it
        x.tell("parish", 0b0000101, true);
        for (int from = 1100; from < 1107; from++) {
            int due = 0;
            for (int n = from; n < from + 800; n++) {
                due += n % 7 > 2 ? 1 : 0;
            }
            x.due(due, "worked", 1, from, from + 799);
        }
        // over three YEARS, with a FEAST in each of them
        x.tell("feast", FIXED, 7, 1, 0, 1).tell("rule", 0, 0, 10, 10);
        int day = Dates.dayOf(2000, 7, 1);
        x.due(800 - 3 * 21, "worked", 0, day - 10, day + 789).due(800 - 11 - 2 * 21, "worked", 0, day, day + 799).alike();
        // a FEAST whose days lie across either end, or just beyond it: one in a thousand days
        x = new Twins().tell("parish", 0, false).tell("feast", FIXED, 2, 29, 0, 1).tell("rule", 0, 0, 10, 10);
        int leap = Dates.dayOf(2000, 2, 29);
        for (int beyond = -12; beyond <= 12; beyond++) {
            int within = Math.max(0, Math.min(21, 11 - beyond));
            x.due(800 - within, "worked", 0, leap - beyond - 799, leap - beyond);
            x.due(800 - Math.max(0, Math.min(21, 11 + beyond)), "worked", 0, leap - beyond, leap - beyond + 799);
        }
        x.alike();
    }

    private static void workedOutside() {
        Due.sentence(27, "OUTSIDE.");
        Twins x = new Twins().tell("parish", 127, true);
        for (int n : NO_DAYS) {
            x.refused(OUTSIDE, "worked", 0, n, n);
        }
        x.refused(OUTSIDE, "worked", 0, -1, 0).refused(OUTSIDE, "worked", 0, LAST, LAST + 1).refused(OUTSIDE, "worked", 0, -2, -1);
        x.refused(OUTSIDE, "worked", 0, MIN, MIN + 799).refused(OUTSIDE, "worked", 0, MAX - 799, MAX);
        x.due(0, "worked", 0, 0, 0).due(0, "worked", 0, LAST, LAST).alike();
    }

    private static void nextDays() {
        Due.sentence(28, "The first day OFF behind day n.");
        Twins x = new Twins().tell("parish", 0b0100000, false).tell("parish", 127, false).tell("parish", 0b0000101, true);
        x.due(5, "nextOff", 0, 0).due(5, "nextOff", 0, 4).due(12, "nextOff", 0, 5).due(12, "nextOff", 0, 6);
        x.due(1, "nextOff", 1, 0).due(LAST, "nextOff", 1, LAST - 1);
        // by a bridge, too
        x.due(8, "nextOff", 2, 7).due(9, "nextOff", 2, 8).due(14, "nextOff", 2, 9);
        // into the next YEAR, and by a FEAST of that
        x.tell("parish", 0, false).tell("feast", FIXED, 1, 1, 0, 1).tell("rule", 3, 0, 0, 0);
        int newYear = Dates.dayOf(2001, 1, 1);
        x.due(newYear, "nextOff", 3, newYear - 1).due(newYear + 365, "nextOff", 3, newYear).alike();
    }

    private static void nextOffRefuses() {
        Due.sentence(28, "BAD; OUTSIDE;");
        Twins x = new Twins().refused(BAD, "nextOff", 0, 5).refused(BAD, "nextOff", 0, -1);
        x.tell("parish", 127, true).tell("parish", 0, true);
        for (int parish : NO_PARISHES) {
            x.refused(BAD, "nextOff", parish, 5).refused(BAD, "nextOff", parish, -1).refused(BAD, "nextOff", parish, LAST + 1);
        }
        for (int n : NO_DAYS) {
            x.refused(OUTSIDE, "nextOff", 0, n).refused(OUTSIDE, "nextOff", 1, n);
        }
        x.due(1, "nextOff", 0, 0).alike();
    }

    private static void nextOfFourHundred() {
        Due.sentence(28, "NONE: none of the next 400 is");
        Twins x = new Twins().tell("parish", 0, false).refused(NONE, "nextOff", 0, 0).refused(NONE, "nextOff", 0, 730000);
        x.tell("feast", FIXED, 2, 29, 0, 1).tell("rule", 0, 0, 0, 0);
        int leap = Dates.dayOf(2000, 2, 29);
        x.due(leap, "nextOff", 0, leap - 1).due(leap, "nextOff", 0, leap - 399).due(leap, "nextOff", 0, leap - 400);
        x.refused(NONE, "nextOff", 0, leap - 401).refused(NONE, "nextOff", 0, leap).refused(NONE, "nextOff", 0, leap + 1);
        x.alike();
    }

    private static void nextWithinTheRange() {
        Due.sentence(28, "(within the range).");
        Twins x = new Twins().tell("parish", 127, true).tell("parish", 0b0100000, false).tell("parish", 0b0010000, false);
        x.refused(NONE, "nextOff", 0, LAST).due(LAST, "nextOff", 0, LAST - 1);
        // the last day is a Saturday
        x.due(LAST, "nextOff", 1, LAST - 1).due(LAST, "nextOff", 1, LAST - 7).refused(NONE, "nextOff", 1, LAST);
        x.due(LAST - 1, "nextOff", 2, LAST - 2).refused(NONE, "nextOff", 2, LAST - 1).refused(NONE, "nextOff", 2, LAST);
        x.tell("parish", 0, true);
        for (int n : new int[] {LAST - 401, LAST - 400, LAST - 399, LAST - 1, LAST}) {
            x.refused(NONE, "nextOff", 3, n);
        }
        x.alike();
    }

    private static void daysInARow() {
        Due.sentence(29, "How many days in a row are OFF, n one of them (0: it is not),");
        Twins x = new Twins().tell("parish", 0b1100000, false).tell("parish", 0, true).tell("parish", 0b0000101, true);
        for (int n = 7; n < 21; n++) {
            x.due(n % 7 >= 5 ? 2 : 0, "inRow", 0, n).due(0, "inRow", 1, n).due(n % 7 <= 2 ? 3 : 0, "inRow", 2, n);
        }
        x.tell("parish", 0b0001000, false).due(1, "inRow", 3, 10).due(0, "inRow", 3, 9).due(0, "inRow", 3, 11);
        x.due(0, "inRow", 1, 0).due(0, "inRow", 1, LAST).alike();
    }

    private static void atMostFiftyOnEachSide() {
        Due.sentence(29, "up to 50 ahead of it and 50 behind it.");
        Twins x = new Twins().tell("parish", 127, false).tell("parish", 0, false);
        x.due(101, "inRow", 0, 730000);
        // six FEASTS with ten days on each side: 126 days from 21 5 on
        x.tell("feast", FIXED, 6, 1, 0, 0);
        for (int i = 1; i < 6; i++) {
            x.tell("feast", BEHIND, i - 1, 21, 0, 0);
        }
        for (int i = 0; i < 6; i++) {
            x.tell("rule", 1, i, 10, 10);
        }
        int first = Dates.dayOf(1999, 5, 22);
        for (int i = 0; i < 126; i++) {
            x.due(Math.min(i, 50) + 1 + Math.min(125 - i, 50), "inRow", 1, first + i);
        }
        x.due(0, "inRow", 1, first - 1).due(0, "inRow", 1, first + 126).alike();
    }

    private static void rowsAtTheEndsOfTheRange() {
        Due.sentence(29, "DAYS have numbers 0 .. 1500000;");
        Twins x = new Twins().tell("parish", 127, true);
        for (int n : new int[] {0, 1, 2, 48, 49, 50, 51, 52}) {
            x.due(Math.min(n, 50) + 51, "inRow", 0, n).due(Math.min(n, 50) + 51, "inRow", 0, LAST - n);
        }
        x.alike();
    }

    private static void inRowRefuses() {
        Due.sentence(29, "BAD; OUTSIDE.");
        Twins x = new Twins().refused(BAD, "inRow", 0, 5).refused(BAD, "inRow", 0, -1);
        x.tell("parish", 127, true).tell("parish", 0, true);
        for (int parish : NO_PARISHES) {
            x.refused(BAD, "inRow", parish, 5).refused(BAD, "inRow", parish, -1).refused(BAD, "inRow", parish, LAST + 1);
        }
        for (int n : NO_DAYS) {
            x.refused(OUTSIDE, "inRow", 0, n).refused(OUTSIDE, "inRow", 1, n);
        }
        x.due(51, "inRow", 0, 0).due(0, "inRow", 1, LAST).alike();
    }
}
